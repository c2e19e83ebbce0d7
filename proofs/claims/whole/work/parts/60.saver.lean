/-! ===== WakeSaver ===== -/
theorem e_X8_handEnded {w : WS} {h : AH} {Q : Int → AH → Prop} (X : XI mX8_handEnded 0 [some (vR 1)] [] w h Q) : CI mX8_handEnded [vR 1] w h Q := CA.of (M := mX8_handEnded) (by decide) rfl (Nat.le_of_ble_eq_true rfl) X
set_option maxRecDepth 20000 in
theorem r_X8_handEnded_0 {w : WS} {h : AH} {Q : Int → AH → Prop} (sA : shA w) (V : (wt w (h 1 2) = 15 ∧ (inR (h 44 9) ∧ inR (h (h 1 2) 9) ∧ (((h 44 9) ≤ (h (h 1 2) 9) → Q 0 h) ∧ (¬ (h 44 9) ≤ (h (h 1 2) 9) → Q 1 h))))) : XI mX8_handEnded 0 [some (vR 1)] [] w h Q := by
  refine s_aload_n (pc' := 1) (x := 1) dX8_handEnded_0 rfl rfl ?_
  refine s_getF (pc' := 4) (b := 44) (kc := 8) (i := 8) dX8_handEnded_1 clX8 (by decide) fl_8_8 (fa_t1 sA) (fa_f8_8 sA) (fun _ => rfl) rfl ?_
  refine s_callV (pc' := 7) (av := []) (a := 44) (sk := []) (kc := 1) dX8_handEnded_4 ml_8_133 okX1_tick oiX1_tick (by decide) (NF := 11) rfl (fa_hand sA).1 rfl (Nat.le_of_ble_eq_true rfl) (Nat.le_refl 0) (Nat.le_refl 0) rfl (CI.eon (c_X1_tick (fa_hand sA).1) ?_)
  refine s_aload_n (pc' := 8) (x := 1) dX8_handEnded_7 rfl rfl ?_
  refine s_get (pc' := 11) (v := vR (h 1 2)) (kc := 8) (i := 2) dX8_handEnded_8 clX8 (by decide) fl_8_2 (fa_t1 sA) (fun _ => rfl) rfl ?_
  obtain ⟨z1, V⟩ := V
  refine s_callV (pc' := 14) (av := []) (a := (h 1 2)) (sk := [vI (h 44 9)]) (kc := 5) dX8_handEnded_11 ml_8_124 okX5_length oiX5_length (by decide) (NF := 12) rfl z1 rfl (Nat.le_of_ble_eq_true rfl) (Nat.le_refl 0) (Nat.le_refl 0) rfl (CI.eon (c_X5_length z1) ?_)
  obtain ⟨z2, z3, V⟩ := V
  obtain ⟨V4, V5⟩ := V
  refine s_icmp_le (pc' := 17) (tgt := 21) dX8_handEnded_14 rfl rfl z2 z3 (fun c => ?_) (fun c => ?_)
  · have V := V4 c
    refine s_iconst (pc' := 22) dX8_handEnded_21 rfl ?_
    exact s_zret dX8_handEnded_22 rfl (by decide) ⟨_, rfl, rfl, V⟩
  · have V := V5 c
    refine s_iconst (pc' := 18) dX8_handEnded_17 rfl ?_
    refine s_goto (tgt := 22) dX8_handEnded_18 rfl ?_
    exact s_zret dX8_handEnded_22 rfl (by decide) ⟨_, rfl, rfl, V⟩
theorem e_X8_takeClasses {w : WS} {h : AH} {Q : AH → Prop} (X : XV mX8_takeClasses 0 [some (vR 1), none] [] w h Q) : CV mX8_takeClasses [vR 1] w h Q := CA.of (M := mX8_takeClasses) (by decide) rfl (Nat.le_of_ble_eq_true rfl) X
set_option maxRecDepth 20000 in
theorem r_X8_takeClasses_0 {w : WS} {h : AH} {Q : AH → Prop} (sA : shA w) (V : CV mX0_layOut [vR 21, vR (h 1 2)] w h (fun h1 => XV mX8_takeClasses 13 [some (vR 1), some (vI 0)] [] w h1 Q)) : XV mX8_takeClasses 0 [some (vR 1), none] [] w h Q := by
  refine s_aload_n (pc' := 1) (x := 1) dX8_takeClasses_0 rfl rfl ?_
  refine s_getF (pc' := 4) (b := 21) (kc := 8) (i := 4) dX8_takeClasses_1 clX8 (by decide) fl_8_4 (fa_t1 sA) (fa_f8_4 sA) (fun _ => rfl) rfl ?_
  refine s_aload_n (pc' := 5) (x := 1) dX8_takeClasses_4 rfl rfl ?_
  refine s_get (pc' := 8) (v := vR (h 1 2)) (kc := 8) (i := 2) dX8_takeClasses_5 clX8 (by decide) fl_8_2 (fa_t1 sA) (fun _ => rfl) rfl ?_
  refine s_callV (pc' := 11) (av := [vR (h 1 2)]) (a := 21) (sk := []) (kc := 0) dX8_takeClasses_8 ml_8_294 okX0_layOut oiX0_layOut (by decide) (NF := 5) rfl (fa_calls21 sA).1 rfl (Nat.le_of_ble_eq_true rfl) (Nat.le_refl 0) (Nat.le_refl 0) rfl (CV.on V (fun h1 V => ?_))
  refine s_iconst (pc' := 12) dX8_takeClasses_11 rfl ?_
  refine s_istore_n (pc' := 13) (ls' := [some (vR 1), some (vI 0)]) dX8_takeClasses_12 (by decide) rfl rfl ?_
  exact V
set_option maxRecDepth 20000 in
theorem r_X8_takeClasses_13 {w : WS} {h : AH} {Q : AH → Prop} {a1 : Int} (sA : shA w) (V : (inR a1 ∧ ((6 ≤ a1 → (∀ h2, h2 = st h 1 10 0 → Q h2)) ∧ (¬ 6 ≤ a1 → (0 ≤ a1 ∧ a1 < 6 ∧ (∀ h6, h6 = st h 39 a1 0 → XV mX8_takeClasses 13 [some (vR 1), some (vI (a1 + 1))] [] w h6 Q)))))) : XV mX8_takeClasses 13 [some (vR 1), some (vI a1)] [] w h Q := by
  refine s_iload_n (pc' := 14) (x := a1) dX8_takeClasses_13 rfl rfl ?_
  refine s_aload_n (pc' := 15) (x := 1) dX8_takeClasses_14 rfl rfl ?_
  refine s_getF (pc' := 18) (b := 39) (kc := 8) (i := 6) dX8_takeClasses_15 clX8 (by decide) fl_8_6 (fa_t1 sA) (fa_f8_6 sA) (fun _ => rfl) rfl ?_
  refine s_alen3 (pc' := 19) dX8_takeClasses_18 (fa_t39 sA) rfl ?_
  rw [fa_l39 sA]
  obtain ⟨z1, V⟩ := V
  obtain ⟨V8, V9⟩ := V
  refine s_icmp_ge (pc' := 22) (tgt := 35) dX8_takeClasses_19 rfl rfl z1 (by decide) (fun c => ?_) (fun c => ?_)
  · have V := V8 c
    refine s_aload_n (pc' := 36) (x := 1) dX8_takeClasses_35 rfl rfl ?_
    refine s_iconst (pc' := 37) dX8_takeClasses_36 rfl ?_
    refine s_put (pc' := 40) (v := vI 0) (x := 0) (kc := 8) (i := 10) dX8_takeClasses_37 clX8 (by decide) fl_8_10 rfl (fa_t1 sA) (fun E => nar_bool E (by decide)) (fun _ _ => rfl) (j0 := 10) rfl rfl ?_
    obtain ⟨h2, e3⟩ : ∃ q, q = st h 1 10 0 := ⟨_, rfl⟩
    rw [← e3]
    have V := V h2 e3
    exact s_vret dX8_takeClasses_40 rfl ⟨rfl, rfl, V⟩
  · have V := V9 c
    refine s_aload_n (pc' := 23) (x := 1) dX8_takeClasses_22 rfl rfl ?_
    refine s_getF (pc' := 26) (b := 39) (kc := 8) (i := 6) dX8_takeClasses_23 clX8 (by decide) fl_8_6 (fa_t1 sA) (fa_f8_6 sA) (fun _ => rfl) rfl ?_
    refine s_iload_n (pc' := 27) (x := a1) dX8_takeClasses_26 rfl rfl ?_
    refine s_iconst (pc' := 28) dX8_takeClasses_27 rfl ?_
    obtain ⟨z4, z5, V⟩ := V
    refine s_zast (pc' := 29) dX8_takeClasses_28 (fa_t39 sA) z4 (fa_lt39 sA z5) (zbool (by decide)) rfl ?_
    obtain ⟨h6, e7⟩ : ∃ q, q = st h 39 a1 0 := ⟨_, rfl⟩
    rw [← e7]
    have V := V h6 e7
    refine s_iinc (pc' := 32) (ls' := [some (vR 1), some (vI (a1 + 1))]) dX8_takeClasses_29 rfl (by decide) rfl rfl ?_
    refine s_goto (tgt := 13) dX8_takeClasses_32 rfl ?_
    exact V
theorem e_X8_planOf {w : WS} {h : AH} {Q : Int → AH → Prop} {a1 : Int} (X : XR mX8_planOf 0 [some (vR 1), some (vI a1), none] [] w h Q) : CR mX8_planOf [vR 1, vI a1] w h Q := CA.of (M := mX8_planOf) (by decide) rfl (Nat.le_of_ble_eq_true rfl) X
set_option maxRecDepth 20000 in
theorem r_X8_planOf_0 {w : WS} {h : AH} {Q : Int → AH → Prop} {a1 : Int} (sA : shA w) (V : (inR a1 ∧ ((a1 < 0 → Q 0 h) ∧ (¬ a1 < 0 → ((6 ≤ a1 → Q 0 h) ∧ (¬ 6 ≤ a1 → ((a1 < 6 → (0 ≤ a1 ∧ a1 < 6 ∧ (((h 26 a1) = 0 → Q (h 26 a1) h) ∧ (¬ (h 26 a1) = 0 → (inR (h 39 a1) ∧ ((¬ (h 39 a1) = 0 → Q (h 26 a1) h) ∧ ((h 39 a1) = 0 → CV mX2_make [vR 40, vI a1, vR 21, vR (h 1 2), vR (h 26 a1)] w h (fun h5 => (∀ h6, h6 = st h5 39 a1 1 → Q (h 26 a1) h6))))))))) ∧ (¬ a1 < 6 → Q 0 h)))))))) : XR mX8_planOf 0 [some (vR 1), some (vI a1), none] [] w h Q := by
  refine s_iload_n (pc' := 1) (x := a1) dX8_planOf_0 rfl rfl ?_
  obtain ⟨z1, V⟩ := V
  obtain ⟨V16, V17⟩ := V
  refine s_if_lt (pc' := 4) (tgt := 22) dX8_planOf_1 rfl rfl z1 (fun c => ?_) (fun c => ?_)
  · have V := V16 c
    refine s_null (pc' := 23) dX8_planOf_22 rfl ?_
    exact s_aret dX8_planOf_23 rfl ⟨_, rfl⟩ ⟨_, rfl, rfl, V⟩
  · have V := V17 c
    refine s_iload_n (pc' := 5) (x := a1) dX8_planOf_4 rfl rfl ?_
    refine s_aload_n (pc' := 6) (x := 1) dX8_planOf_5 rfl rfl ?_
    refine s_getF (pc' := 9) (b := 26) (kc := 8) (i := 5) dX8_planOf_6 clX8 (by decide) fl_8_5 (fa_t1 sA) (fa_f8_5 sA) (fun _ => rfl) rfl ?_
    refine s_alen5 (pc' := 10) dX8_planOf_9 (fa_t26 sA) rfl ?_
    rw [fa_l26 sA]
    obtain ⟨V14, V15⟩ := V
    refine s_icmp_ge (pc' := 13) (tgt := 22) dX8_planOf_10 rfl rfl z1 (by decide) (fun c => ?_) (fun c => ?_)
    · have V := V14 c
      refine s_null (pc' := 23) dX8_planOf_22 rfl ?_
      exact s_aret dX8_planOf_23 rfl ⟨_, rfl⟩ ⟨_, rfl, rfl, V⟩
    · have V := V15 c
      refine s_iload_n (pc' := 14) (x := a1) dX8_planOf_13 rfl rfl ?_
      refine s_aload_n (pc' := 15) (x := 1) dX8_planOf_14 rfl rfl ?_
      refine s_getF (pc' := 18) (b := 39) (kc := 8) (i := 6) dX8_planOf_15 clX8 (by decide) fl_8_6 (fa_t1 sA) (fa_f8_6 sA) (fun _ => rfl) rfl ?_
      refine s_alen3 (pc' := 19) dX8_planOf_18 (fa_t39 sA) rfl ?_
      rw [fa_l39 sA]
      obtain ⟨V12, V13⟩ := V
      refine s_icmp_lt (pc' := 22) (tgt := 24) dX8_planOf_19 rfl rfl z1 (by decide) (fun c => ?_) (fun c => ?_)
      · have V := V12 c
        refine s_aload_n (pc' := 25) (x := 1) dX8_planOf_24 rfl rfl ?_
        refine s_getF (pc' := 28) (b := 26) (kc := 8) (i := 5) dX8_planOf_25 clX8 (by decide) fl_8_5 (fa_t1 sA) (fa_f8_5 sA) (fun _ => rfl) rfl ?_
        refine s_iload_n (pc' := 29) (x := a1) dX8_planOf_28 rfl rfl ?_
        obtain ⟨z2, z3, V⟩ := V
        refine s_aald (pc' := 30) dX8_planOf_29 (fa_t26 sA) z2 (fa_lt26 sA z3) rfl ?_
        refine s_astore_n (pc' := 31) (ls' := [some (vR 1), some (vI a1), some (vR (h 26 a1))]) dX8_planOf_30 (by decide) rfl rfl ?_
        refine s_aload_n (pc' := 32) (x := (h 26 a1)) dX8_planOf_31 rfl rfl ?_
        obtain ⟨V10, V11⟩ := V
        refine s_ifnull (pc' := 35) (tgt := 68) dX8_planOf_32 rfl rfl (fun c => ?_) (fun c => ?_)
        · have V := V10 c
          refine s_aload_n (pc' := 69) (x := (h 26 a1)) dX8_planOf_68 rfl rfl ?_
          exact s_aret dX8_planOf_69 rfl ⟨_, rfl⟩ ⟨_, rfl, rfl, V⟩
        · have V := V11 c
          refine s_aload_n (pc' := 36) (x := 1) dX8_planOf_35 rfl rfl ?_
          refine s_getF (pc' := 39) (b := 39) (kc := 8) (i := 6) dX8_planOf_36 clX8 (by decide) fl_8_6 (fa_t1 sA) (fa_f8_6 sA) (fun _ => rfl) rfl ?_
          refine s_iload_n (pc' := 40) (x := a1) dX8_planOf_39 rfl rfl ?_
          refine s_zald (pc' := 41) dX8_planOf_40 (fa_t39 sA) z2 (fa_lt39 sA z3) rfl ?_
          obtain ⟨z4, V⟩ := V
          obtain ⟨V8, V9⟩ := V
          refine s_if_ne (pc' := 44) (tgt := 68) dX8_planOf_41 rfl rfl z4 (fun c => ?_) (fun c => ?_)
          · have V := V8 c
            refine s_aload_n (pc' := 69) (x := (h 26 a1)) dX8_planOf_68 rfl rfl ?_
            exact s_aret dX8_planOf_69 rfl ⟨_, rfl⟩ ⟨_, rfl, rfl, V⟩
          · have V := V9 c
            refine s_aload_n (pc' := 45) (x := 1) dX8_planOf_44 rfl rfl ?_
            refine s_getF (pc' := 48) (b := 40) (kc := 8) (i := 7) dX8_planOf_45 clX8 (by decide) fl_8_7 (fa_t1 sA) (fa_f8_7 sA) (fun _ => rfl) rfl ?_
            refine s_iload_n (pc' := 49) (x := a1) dX8_planOf_48 rfl rfl ?_
            refine s_aload_n (pc' := 50) (x := 1) dX8_planOf_49 rfl rfl ?_
            refine s_getF (pc' := 53) (b := 21) (kc := 8) (i := 4) dX8_planOf_50 clX8 (by decide) fl_8_4 (fa_t1 sA) (fa_f8_4 sA) (fun _ => rfl) rfl ?_
            refine s_aload_n (pc' := 54) (x := 1) dX8_planOf_53 rfl rfl ?_
            refine s_get (pc' := 57) (v := vR (h 1 2)) (kc := 8) (i := 2) dX8_planOf_54 clX8 (by decide) fl_8_2 (fa_t1 sA) (fun _ => rfl) rfl ?_
            refine s_aload_n (pc' := 58) (x := (h 26 a1)) dX8_planOf_57 rfl rfl ?_
            refine s_callV (pc' := 61) (av := [vI a1, vR 21, vR (h 1 2), vR (h 26 a1)]) (a := 40) (sk := []) (kc := 2) dX8_planOf_58 ml_8_301 okX2_make oiX2_make (by decide) (NF := 3) rfl (fa_plan sA).1 rfl (Nat.le_of_ble_eq_true rfl) (Nat.le_refl 0) (Nat.le_refl 0) rfl (CV.on V (fun h5 V => ?_))
            refine s_aload_n (pc' := 62) (x := 1) dX8_planOf_61 rfl rfl ?_
            refine s_getF (pc' := 65) (b := 39) (kc := 8) (i := 6) dX8_planOf_62 clX8 (by decide) fl_8_6 (fa_t1 sA) (fa_f8_6 sA) (fun _ => rfl) rfl ?_
            refine s_iload_n (pc' := 66) (x := a1) dX8_planOf_65 rfl rfl ?_
            refine s_iconst (pc' := 67) dX8_planOf_66 rfl ?_
            refine s_zast (pc' := 68) dX8_planOf_67 (fa_t39 sA) z2 (fa_lt39 sA z3) (zbool (by decide)) rfl ?_
            obtain ⟨h6, e7⟩ : ∃ q, q = st h5 39 a1 1 := ⟨_, rfl⟩
            rw [← e7]
            have V := V h6 e7
            refine s_aload_n (pc' := 69) (x := (h 26 a1)) dX8_planOf_68 rfl rfl ?_
            exact s_aret dX8_planOf_69 rfl ⟨_, rfl⟩ ⟨_, rfl, rfl, V⟩
      · have V := V13 c
        refine s_null (pc' := 23) dX8_planOf_22 rfl ?_
        exact s_aret dX8_planOf_23 rfl ⟨_, rfl⟩ ⟨_, rfl, rfl, V⟩
theorem e_X8_roundMade {w : WS} {h : AH} {Q : Int → AH → Prop} (X : XR mX8_roundMade 0 [some (vR 1)] [] w h Q) : CR mX8_roundMade [vR 1] w h Q := CA.of (M := mX8_roundMade) (by decide) rfl (Nat.le_of_ble_eq_true rfl) X
set_option maxRecDepth 20000 in
theorem r_X8_roundMade_0 {w : WS} {h : AH} {Q : Int → AH → Prop} (sA : shA w) (V : (inR (h 1 10) ∧ ((¬ (h 1 10) = 0 → Q 52 h) ∧ ((h 1 10) = 0 → CV mX4_make [vR 52, vR (h 1 2)] w h (fun h2 => (∀ h3, h3 = st h2 1 10 1 → Q 52 h3)))))) : XR mX8_roundMade 0 [some (vR 1)] [] w h Q := by
  refine s_aload_n (pc' := 1) (x := 1) dX8_roundMade_0 rfl rfl ?_
  refine s_get (pc' := 4) (v := vI (h 1 10)) (kc := 8) (i := 10) dX8_roundMade_1 clX8 (by decide) fl_8_10 (fa_t1 sA) (fun _ => rfl) rfl ?_
  obtain ⟨z1, V⟩ := V
  obtain ⟨V5, V6⟩ := V
  refine s_if_ne (pc' := 7) (tgt := 23) dX8_roundMade_4 rfl rfl z1 (fun c => ?_) (fun c => ?_)
  · have V := V5 c
    refine s_aload_n (pc' := 24) (x := 1) dX8_roundMade_23 rfl rfl ?_
    refine s_getF (pc' := 27) (b := 52) (kc := 8) (i := 9) dX8_roundMade_24 clX8 (by decide) fl_8_9 (fa_t1 sA) (fa_f8_9 sA) (fun _ => rfl) rfl ?_
    exact s_aret dX8_roundMade_27 rfl ⟨_, rfl⟩ ⟨_, rfl, rfl, V⟩
  · have V := V6 c
    refine s_aload_n (pc' := 8) (x := 1) dX8_roundMade_7 rfl rfl ?_
    refine s_getF (pc' := 11) (b := 52) (kc := 8) (i := 9) dX8_roundMade_8 clX8 (by decide) fl_8_9 (fa_t1 sA) (fa_f8_9 sA) (fun _ => rfl) rfl ?_
    refine s_aload_n (pc' := 12) (x := 1) dX8_roundMade_11 rfl rfl ?_
    refine s_get (pc' := 15) (v := vR (h 1 2)) (kc := 8) (i := 2) dX8_roundMade_12 clX8 (by decide) fl_8_2 (fa_t1 sA) (fun _ => rfl) rfl ?_
    refine s_callV (pc' := 18) (av := [vR (h 1 2)]) (a := 52) (sk := []) (kc := 4) dX8_roundMade_15 ml_8_305 okX4_make oiX4_make (by decide) (NF := 6) rfl (fa_round52 sA).1 rfl (Nat.le_of_ble_eq_true rfl) (Nat.le_refl 0) (Nat.le_refl 0) rfl (CV.on V (fun h2 V => ?_))
    refine s_aload_n (pc' := 19) (x := 1) dX8_roundMade_18 rfl rfl ?_
    refine s_iconst (pc' := 20) dX8_roundMade_19 rfl ?_
    refine s_put (pc' := 23) (v := vI 1) (x := 1) (kc := 8) (i := 10) dX8_roundMade_20 clX8 (by decide) fl_8_10 rfl (fa_t1 sA) (fun E => nar_bool E (by decide)) (fun _ _ => rfl) (j0 := 10) rfl rfl ?_
    obtain ⟨h3, e4⟩ : ∃ q, q = st h2 1 10 1 := ⟨_, rfl⟩
    rw [← e4]
    have V := V h3 e4
    refine s_aload_n (pc' := 24) (x := 1) dX8_roundMade_23 rfl rfl ?_
    refine s_getF (pc' := 27) (b := 52) (kc := 8) (i := 9) dX8_roundMade_24 clX8 (by decide) fl_8_9 (fa_t1 sA) (fa_f8_9 sA) (fun _ => rfl) rfl ?_
    exact s_aret dX8_roundMade_27 rfl ⟨_, rfl⟩ ⟨_, rfl, rfl, V⟩
theorem e_X8_supposed {w : WS} {h : AH} {Q : Int → AH → Prop} {a1 a2 a3 : Int} (X : XI mX8_supposed 0 [some (vR 1), some (vI a1), some (vI a2), some (vI a3), none] [] w h Q) : CI mX8_supposed [vR 1, vI a1, vI a2, vI a3] w h Q := CA.of (M := mX8_supposed) (by decide) rfl (Nat.le_of_ble_eq_true rfl) X
set_option maxRecDepth 20000 in
theorem r_X8_supposed_0 {w : WS} {h : AH} {Q : Int → AH → Prop} {a1 a2 a3 : Int} (sA : shA w) (V : (wt w (h 1 2) = 15 ∧ shSetup w (h 1 2) ∧ inR a1 ∧ (0 ≤ h (h 1 2) 4 ∧ h (h 1 2) 4 ≤ 8) ∧ (∀ y5, y5 = (if 0 ≤ a1 ∧ a1 < h (h 1 2) 4 then h ((h 1 2) + 3) a1 else -1) → CV mX5_setSlack [vR (h 1 2), vI a1, vI a2] w h (fun h7 => (inR a3 ∧ ((¬ a3 = 3 → CV mX0_layOut [vR 55, vR (h7 1 2)] w h7 (fun h9 => CV mX2_make [vR 40, vI a3, vR 55, vR (h9 1 2), vR 60] w h9 (fun h10 => (wt w (h10 1 2) = 15 ∧ CV mX5_setSlack [vR (h10 1 2), vI a1, vI y5] w h10 (fun h12 => ((a3 = 0 → Q (h12 60 1) h12) ∧ (a3 = 1 → (wt w (h12 1 2) = 15 ∧ CI mX7_costFor [vR 60, vR 55, vI (h12 (h12 1 2) 10)] w h12 (fun x16 h15 => Q x16 h15))) ∧ (a3 = 2 → (wt w (h12 1 2) = 15 ∧ CI mX7_energy [vR 60, vI (h12 (h12 1 2) 10), vI (h12 (h12 1 2) 11)] w h12 (fun x20 h19 => Q x20 h19))) ∧ ((a3 < 0 ∨ 2 < a3) → (inR (h12 62 4) ∧ ((¬ (0 < h12 62 4) → Q (-1) h12) ∧ ((0 < h12 62 4) → Q (h12 62 4) h12)))))))))) ∧ (a3 = 3 → CV mX4_make [vR 62, vR (h7 1 2)] w h7 (fun h26 => (wt w (h26 1 2) = 15 ∧ CV mX5_setSlack [vR (h26 1 2), vI a1, vI y5] w h26 (fun h28 => ((a3 = 0 → Q (h28 60 1) h28) ∧ (a3 = 1 → (wt w (h28 1 2) = 15 ∧ CI mX7_costFor [vR 60, vR 55, vI (h28 (h28 1 2) 10)] w h28 (fun x32 h31 => Q x32 h31))) ∧ (a3 = 2 → (wt w (h28 1 2) = 15 ∧ CI mX7_energy [vR 60, vI (h28 (h28 1 2) 10), vI (h28 (h28 1 2) 11)] w h28 (fun x36 h35 => Q x36 h35))) ∧ ((a3 < 0 ∨ 2 < a3) → (inR (h28 62 4) ∧ ((¬ (0 < h28 62 4) → Q (-1) h28) ∧ ((0 < h28 62 4) → Q (h28 62 4) h28))))))))))))))) : XI mX8_supposed 0 [some (vR 1), some (vI a1), some (vI a2), some (vI a3), none] [] w h Q := by
  refine s_aload_n (pc' := 1) (x := 1) dX8_supposed_0 rfl rfl ?_
  refine s_get (pc' := 4) (v := vR (h 1 2)) (kc := 8) (i := 2) dX8_supposed_1 clX8 (by decide) fl_8_2 (fa_t1 sA) (fun _ => rfl) rfl ?_
  refine s_iload_n (pc' := 5) (x := a1) dX8_supposed_4 rfl rfl ?_
  obtain ⟨z1, z2, z3, z4, V⟩ := V
  refine s_callV (pc' := 8) (av := [vI a1]) (a := (h 1 2)) (sk := []) (kc := 5) dX8_supposed_5 ml_8_153 okX5_ownSlack oiX5_ownSlack (by decide) (NF := 12) rfl z1 rfl (Nat.le_of_ble_eq_true rfl) (Nat.le_refl 0) (Nat.le_refl 0) rfl (CI.eon (c_X5_ownSlack z2 z3 z4) ?_)
  obtain ⟨y5, e6⟩ : ∃ q, q = (if 0 ≤ a1 ∧ a1 < h (h 1 2) 4 then h ((h 1 2) + 3) a1 else -1) := ⟨_, rfl⟩
  rw [← e6]
  have V := V y5 e6
  refine s_istore (pc' := 10) (ls' := [some (vR 1), some (vI a1), some (vI a2), some (vI a3), some (vI y5)]) dX8_supposed_8 (by decide) rfl rfl ?_
  refine s_aload_n (pc' := 11) (x := 1) dX8_supposed_10 rfl rfl ?_
  refine s_get (pc' := 14) (v := vR (h 1 2)) (kc := 8) (i := 2) dX8_supposed_11 clX8 (by decide) fl_8_2 (fa_t1 sA) (fun _ => rfl) rfl ?_
  refine s_iload_n (pc' := 15) (x := a1) dX8_supposed_14 rfl rfl ?_
  refine s_iload_n (pc' := 16) (x := a2) dX8_supposed_15 rfl rfl ?_
  refine s_callV (pc' := 19) (av := [vI a1, vI a2]) (a := (h 1 2)) (sk := []) (kc := 5) dX8_supposed_16 ml_8_165 okX5_setSlack oiX5_setSlack (by decide) (NF := 12) rfl z1 rfl (Nat.le_of_ble_eq_true rfl) (Nat.le_refl 0) (Nat.le_refl 0) rfl (CV.on V (fun h7 V => ?_))
  refine s_iload_n (pc' := 20) (x := a3) dX8_supposed_19 rfl rfl ?_
  refine s_iconst (pc' := 21) dX8_supposed_20 rfl ?_
  obtain ⟨z8, V⟩ := V
  obtain ⟨V42, V43⟩ := V
  refine s_icmp_ne (pc' := 24) (tgt := 38) dX8_supposed_21 rfl rfl z8 (by decide) (fun c => ?_) (fun c => ?_)
  · have V := V42 c
    refine s_aload_n (pc' := 39) (x := 1) dX8_supposed_38 rfl rfl ?_
    refine s_getF (pc' := 42) (b := 55) (kc := 8) (i := 11) dX8_supposed_39 clX8 (by decide) fl_8_11 (fa_t1 sA) (fa_f8_11 sA) (fun _ => rfl) rfl ?_
    refine s_aload_n (pc' := 43) (x := 1) dX8_supposed_42 rfl rfl ?_
    refine s_get (pc' := 46) (v := vR (h7 1 2)) (kc := 8) (i := 2) dX8_supposed_43 clX8 (by decide) fl_8_2 (fa_t1 sA) (fun _ => rfl) rfl ?_
    refine s_callV (pc' := 49) (av := [vR (h7 1 2)]) (a := 55) (sk := []) (kc := 0) dX8_supposed_46 ml_8_294 okX0_layOut oiX0_layOut (by decide) (NF := 5) rfl (fa_calls55 sA).1 rfl (Nat.le_of_ble_eq_true rfl) (Nat.le_refl 0) (Nat.le_refl 0) rfl (CV.on V (fun h9 V => ?_))
    refine s_aload_n (pc' := 50) (x := 1) dX8_supposed_49 rfl rfl ?_
    refine s_getF (pc' := 53) (b := 40) (kc := 8) (i := 7) dX8_supposed_50 clX8 (by decide) fl_8_7 (fa_t1 sA) (fa_f8_7 sA) (fun _ => rfl) rfl ?_
    refine s_iload_n (pc' := 54) (x := a3) dX8_supposed_53 rfl rfl ?_
    refine s_aload_n (pc' := 55) (x := 1) dX8_supposed_54 rfl rfl ?_
    refine s_getF (pc' := 58) (b := 55) (kc := 8) (i := 11) dX8_supposed_55 clX8 (by decide) fl_8_11 (fa_t1 sA) (fa_f8_11 sA) (fun _ => rfl) rfl ?_
    refine s_aload_n (pc' := 59) (x := 1) dX8_supposed_58 rfl rfl ?_
    refine s_get (pc' := 62) (v := vR (h9 1 2)) (kc := 8) (i := 2) dX8_supposed_59 clX8 (by decide) fl_8_2 (fa_t1 sA) (fun _ => rfl) rfl ?_
    refine s_aload_n (pc' := 63) (x := 1) dX8_supposed_62 rfl rfl ?_
    refine s_getF (pc' := 66) (b := 60) (kc := 8) (i := 12) dX8_supposed_63 clX8 (by decide) fl_8_12 (fa_t1 sA) (fa_f8_12 sA) (fun _ => rfl) rfl ?_
    refine s_callV (pc' := 69) (av := [vI a3, vR 55, vR (h9 1 2), vR 60]) (a := 40) (sk := []) (kc := 2) dX8_supposed_66 ml_8_301 okX2_make oiX2_make (by decide) (NF := 3) rfl (fa_plan sA).1 rfl (Nat.le_of_ble_eq_true rfl) (Nat.le_refl 0) (Nat.le_refl 0) rfl (CV.on V (fun h10 V => ?_))
    refine s_aload_n (pc' := 70) (x := 1) dX8_supposed_69 rfl rfl ?_
    refine s_get (pc' := 73) (v := vR (h10 1 2)) (kc := 8) (i := 2) dX8_supposed_70 clX8 (by decide) fl_8_2 (fa_t1 sA) (fun _ => rfl) rfl ?_
    refine s_iload_n (pc' := 74) (x := a1) dX8_supposed_73 rfl rfl ?_
    refine s_iload (pc' := 76) (x := y5) dX8_supposed_74 rfl rfl ?_
    obtain ⟨z11, V⟩ := V
    refine s_callV (pc' := 79) (av := [vI a1, vI y5]) (a := (h10 1 2)) (sk := []) (kc := 5) dX8_supposed_76 ml_8_165 okX5_setSlack oiX5_setSlack (by decide) (NF := 12) rfl z11 rfl (Nat.le_of_ble_eq_true rfl) (Nat.le_refl 0) (Nat.le_refl 0) rfl (CV.on V (fun h12 V => ?_))
    refine s_iload_n (pc' := 80) (x := a3) dX8_supposed_79 rfl rfl ?_
    obtain ⟨V13, V17, V21, V25⟩ := V
    by_cases c : a3 = 0
    · have V := V13 c
      refine s_tableIn (v := 0) (tgt := 108) dX8_supposed_80 c (by decide) (by decide) (by decide) rfl rfl ?_
      refine s_aload_n (pc' := 109) (x := 1) dX8_supposed_108 rfl rfl ?_
      refine s_getF (pc' := 112) (b := 60) (kc := 8) (i := 12) dX8_supposed_109 clX8 (by decide) fl_8_12 (fa_t1 sA) (fa_f8_12 sA) (fun _ => rfl) rfl ?_
      refine s_callV (pc' := 115) (av := []) (a := 60) (sk := []) (kc := 7) dX8_supposed_112 ml_8_186 okX7_size oiX7_size (by decide) (NF := 2) rfl (fa_wakes60 sA).1 rfl (Nat.le_of_ble_eq_true rfl) (Nat.le_refl 0) (Nat.le_refl 0) rfl (CI.eon (c_X7_size (fa_wakes60 sA).1) ?_)
      exact s_iret dX8_supposed_115 rfl ⟨_, rfl, rfl, V⟩
    have c0 := c
    by_cases c : a3 = 1
    · have V := V17 c
      refine s_tableIn (v := 1) (tgt := 116) dX8_supposed_80 c (by decide) (by decide) (by decide) rfl rfl ?_
      refine s_aload_n (pc' := 117) (x := 1) dX8_supposed_116 rfl rfl ?_
      refine s_getF (pc' := 120) (b := 60) (kc := 8) (i := 12) dX8_supposed_117 clX8 (by decide) fl_8_12 (fa_t1 sA) (fa_f8_12 sA) (fun _ => rfl) rfl ?_
      refine s_aload_n (pc' := 121) (x := 1) dX8_supposed_120 rfl rfl ?_
      refine s_getF (pc' := 124) (b := 55) (kc := 8) (i := 11) dX8_supposed_121 clX8 (by decide) fl_8_11 (fa_t1 sA) (fa_f8_11 sA) (fun _ => rfl) rfl ?_
      refine s_aload_n (pc' := 125) (x := 1) dX8_supposed_124 rfl rfl ?_
      refine s_get (pc' := 128) (v := vR (h12 1 2)) (kc := 8) (i := 2) dX8_supposed_125 clX8 (by decide) fl_8_2 (fa_t1 sA) (fun _ => rfl) rfl ?_
      obtain ⟨z14, V⟩ := V
      refine s_callV (pc' := 131) (av := []) (a := (h12 1 2)) (sk := [vR 55, vR 60]) (kc := 5) dX8_supposed_128 ml_8_127 okX5_wakePrice oiX5_wakePrice (by decide) (NF := 12) rfl z14 rfl (Nat.le_of_ble_eq_true rfl) (Nat.le_refl 0) (Nat.le_refl 0) rfl (CI.eon (c_X5_wakePrice z14) ?_)
      refine s_callV (pc' := 134) (av := [vR 55, vI (h12 (h12 1 2) 10)]) (a := 60) (sk := []) (kc := 7) dX8_supposed_131 ml_8_190 okX7_costFor oiX7_costFor (by decide) (NF := 2) rfl (fa_wakes60 sA).1 rfl (Nat.le_of_ble_eq_true rfl) (Nat.le_refl 0) (Nat.le_refl 0) rfl (CI.on V (fun x16 h15 V => ?_))
      exact s_iret dX8_supposed_134 rfl ⟨_, rfl, rfl, V⟩
    have c1 := c
    by_cases c : a3 = 2
    · have V := V21 c
      refine s_tableIn (v := 2) (tgt := 135) dX8_supposed_80 c (by decide) (by decide) (by decide) rfl rfl ?_
      refine s_aload_n (pc' := 136) (x := 1) dX8_supposed_135 rfl rfl ?_
      refine s_getF (pc' := 139) (b := 60) (kc := 8) (i := 12) dX8_supposed_136 clX8 (by decide) fl_8_12 (fa_t1 sA) (fa_f8_12 sA) (fun _ => rfl) rfl ?_
      refine s_aload_n (pc' := 140) (x := 1) dX8_supposed_139 rfl rfl ?_
      refine s_get (pc' := 143) (v := vR (h12 1 2)) (kc := 8) (i := 2) dX8_supposed_140 clX8 (by decide) fl_8_2 (fa_t1 sA) (fun _ => rfl) rfl ?_
      obtain ⟨z18, V⟩ := V
      refine s_callV (pc' := 146) (av := []) (a := (h12 1 2)) (sk := [vR 60]) (kc := 5) dX8_supposed_143 ml_8_127 okX5_wakePrice oiX5_wakePrice (by decide) (NF := 12) rfl z18 rfl (Nat.le_of_ble_eq_true rfl) (Nat.le_refl 0) (Nat.le_refl 0) rfl (CI.eon (c_X5_wakePrice z18) ?_)
      refine s_aload_n (pc' := 147) (x := 1) dX8_supposed_146 rfl rfl ?_
      refine s_get (pc' := 150) (v := vR (h12 1 2)) (kc := 8) (i := 2) dX8_supposed_147 clX8 (by decide) fl_8_2 (fa_t1 sA) (fun _ => rfl) rfl ?_
      refine s_callV (pc' := 153) (av := []) (a := (h12 1 2)) (sk := [vI (h12 (h12 1 2) 10), vR 60]) (kc := 5) dX8_supposed_150 ml_8_130 okX5_stay oiX5_stay (by decide) (NF := 12) rfl z18 rfl (Nat.le_of_ble_eq_true rfl) (Nat.le_refl 0) (Nat.le_refl 0) rfl (CI.eon (c_X5_stay z18) ?_)
      refine s_callV (pc' := 156) (av := [vI (h12 (h12 1 2) 10), vI (h12 (h12 1 2) 11)]) (a := 60) (sk := []) (kc := 7) dX8_supposed_153 ml_8_198 okX7_energy oiX7_energy (by decide) (NF := 2) rfl (fa_wakes60 sA).1 rfl (Nat.le_of_ble_eq_true rfl) (Nat.le_refl 0) (Nat.le_refl 0) rfl (CI.on V (fun x20 h19 V => ?_))
      exact s_iret dX8_supposed_156 rfl ⟨_, rfl, rfl, V⟩
    have c2 := c
    have co : a3 < 0 ∨ 2 < a3 := by omega
    have V := V25 co
    refine s_tableOut (tgt := 157) dX8_supposed_80 z8 co rfl ?_
    refine s_aload_n (pc' := 158) (x := 1) dX8_supposed_157 rfl rfl ?_
    refine s_getF (pc' := 161) (b := 62) (kc := 8) (i := 13) dX8_supposed_158 clX8 (by decide) fl_8_13 (fa_t1 sA) (fa_f8_13 sA) (fun _ => rfl) rfl ?_
    obtain ⟨z22, V⟩ := V
    refine s_callV (pc' := 164) (av := []) (a := 62) (sk := []) (kc := 4) dX8_supposed_161 ml_8_277 okX4_exists oiX4_exists (by decide) (NF := 6) rfl (fa_round62 sA).1 rfl (Nat.le_of_ble_eq_true rfl) (Nat.le_refl 0) (Nat.le_refl 0) rfl (CI.eon (c_X4_exists (fa_round62 sA).1 z22) ?_)
    obtain ⟨V23, V24⟩ := V
    refine s_ifeq_b (pc' := 167) (tgt := 177) dX8_supposed_164 rfl rfl (fun c => ?_) (fun c => ?_)
    · have V := V23 c
      refine s_iconst (pc' := 178) dX8_supposed_177 rfl ?_
      exact s_iret dX8_supposed_178 rfl ⟨_, rfl, rfl, V⟩
    · have V := V24 c
      refine s_aload_n (pc' := 168) (x := 1) dX8_supposed_167 rfl rfl ?_
      refine s_getF (pc' := 171) (b := 62) (kc := 8) (i := 13) dX8_supposed_168 clX8 (by decide) fl_8_13 (fa_t1 sA) (fa_f8_13 sA) (fun _ => rfl) rfl ?_
      refine s_callV (pc' := 174) (av := []) (a := 62) (sk := []) (kc := 4) dX8_supposed_171 ml_8_286 okX4_size oiX4_size (by decide) (NF := 6) rfl (fa_round62 sA).1 rfl (Nat.le_of_ble_eq_true rfl) (Nat.le_refl 0) (Nat.le_refl 0) rfl (CI.eon (c_X4_size (fa_round62 sA).1) ?_)
      refine s_goto (tgt := 178) dX8_supposed_174 rfl ?_
      exact s_iret dX8_supposed_178 rfl ⟨_, rfl, rfl, V⟩
  · have V := V43 c
    refine s_aload_n (pc' := 25) (x := 1) dX8_supposed_24 rfl rfl ?_
    refine s_getF (pc' := 28) (b := 62) (kc := 8) (i := 13) dX8_supposed_25 clX8 (by decide) fl_8_13 (fa_t1 sA) (fa_f8_13 sA) (fun _ => rfl) rfl ?_
    refine s_aload_n (pc' := 29) (x := 1) dX8_supposed_28 rfl rfl ?_
    refine s_get (pc' := 32) (v := vR (h7 1 2)) (kc := 8) (i := 2) dX8_supposed_29 clX8 (by decide) fl_8_2 (fa_t1 sA) (fun _ => rfl) rfl ?_
    refine s_callV (pc' := 35) (av := [vR (h7 1 2)]) (a := 62) (sk := []) (kc := 4) dX8_supposed_32 ml_8_305 okX4_make oiX4_make (by decide) (NF := 6) rfl (fa_round62 sA).1 rfl (Nat.le_of_ble_eq_true rfl) (Nat.le_refl 0) (Nat.le_refl 0) rfl (CV.on V (fun h26 V => ?_))
    refine s_goto (tgt := 69) dX8_supposed_35 rfl ?_
    refine s_aload_n (pc' := 70) (x := 1) dX8_supposed_69 rfl rfl ?_
    refine s_get (pc' := 73) (v := vR (h26 1 2)) (kc := 8) (i := 2) dX8_supposed_70 clX8 (by decide) fl_8_2 (fa_t1 sA) (fun _ => rfl) rfl ?_
    refine s_iload_n (pc' := 74) (x := a1) dX8_supposed_73 rfl rfl ?_
    refine s_iload (pc' := 76) (x := y5) dX8_supposed_74 rfl rfl ?_
    obtain ⟨z27, V⟩ := V
    refine s_callV (pc' := 79) (av := [vI a1, vI y5]) (a := (h26 1 2)) (sk := []) (kc := 5) dX8_supposed_76 ml_8_165 okX5_setSlack oiX5_setSlack (by decide) (NF := 12) rfl z27 rfl (Nat.le_of_ble_eq_true rfl) (Nat.le_refl 0) (Nat.le_refl 0) rfl (CV.on V (fun h28 V => ?_))
    refine s_iload_n (pc' := 80) (x := a3) dX8_supposed_79 rfl rfl ?_
    obtain ⟨V29, V33, V37, V41⟩ := V
    by_cases c : a3 = 0
    · have V := V29 c
      refine s_tableIn (v := 0) (tgt := 108) dX8_supposed_80 c (by decide) (by decide) (by decide) rfl rfl ?_
      refine s_aload_n (pc' := 109) (x := 1) dX8_supposed_108 rfl rfl ?_
      refine s_getF (pc' := 112) (b := 60) (kc := 8) (i := 12) dX8_supposed_109 clX8 (by decide) fl_8_12 (fa_t1 sA) (fa_f8_12 sA) (fun _ => rfl) rfl ?_
      refine s_callV (pc' := 115) (av := []) (a := 60) (sk := []) (kc := 7) dX8_supposed_112 ml_8_186 okX7_size oiX7_size (by decide) (NF := 2) rfl (fa_wakes60 sA).1 rfl (Nat.le_of_ble_eq_true rfl) (Nat.le_refl 0) (Nat.le_refl 0) rfl (CI.eon (c_X7_size (fa_wakes60 sA).1) ?_)
      exact s_iret dX8_supposed_115 rfl ⟨_, rfl, rfl, V⟩
    have c0 := c
    by_cases c : a3 = 1
    · have V := V33 c
      refine s_tableIn (v := 1) (tgt := 116) dX8_supposed_80 c (by decide) (by decide) (by decide) rfl rfl ?_
      refine s_aload_n (pc' := 117) (x := 1) dX8_supposed_116 rfl rfl ?_
      refine s_getF (pc' := 120) (b := 60) (kc := 8) (i := 12) dX8_supposed_117 clX8 (by decide) fl_8_12 (fa_t1 sA) (fa_f8_12 sA) (fun _ => rfl) rfl ?_
      refine s_aload_n (pc' := 121) (x := 1) dX8_supposed_120 rfl rfl ?_
      refine s_getF (pc' := 124) (b := 55) (kc := 8) (i := 11) dX8_supposed_121 clX8 (by decide) fl_8_11 (fa_t1 sA) (fa_f8_11 sA) (fun _ => rfl) rfl ?_
      refine s_aload_n (pc' := 125) (x := 1) dX8_supposed_124 rfl rfl ?_
      refine s_get (pc' := 128) (v := vR (h28 1 2)) (kc := 8) (i := 2) dX8_supposed_125 clX8 (by decide) fl_8_2 (fa_t1 sA) (fun _ => rfl) rfl ?_
      obtain ⟨z30, V⟩ := V
      refine s_callV (pc' := 131) (av := []) (a := (h28 1 2)) (sk := [vR 55, vR 60]) (kc := 5) dX8_supposed_128 ml_8_127 okX5_wakePrice oiX5_wakePrice (by decide) (NF := 12) rfl z30 rfl (Nat.le_of_ble_eq_true rfl) (Nat.le_refl 0) (Nat.le_refl 0) rfl (CI.eon (c_X5_wakePrice z30) ?_)
      refine s_callV (pc' := 134) (av := [vR 55, vI (h28 (h28 1 2) 10)]) (a := 60) (sk := []) (kc := 7) dX8_supposed_131 ml_8_190 okX7_costFor oiX7_costFor (by decide) (NF := 2) rfl (fa_wakes60 sA).1 rfl (Nat.le_of_ble_eq_true rfl) (Nat.le_refl 0) (Nat.le_refl 0) rfl (CI.on V (fun x32 h31 V => ?_))
      exact s_iret dX8_supposed_134 rfl ⟨_, rfl, rfl, V⟩
    have c1 := c
    by_cases c : a3 = 2
    · have V := V37 c
      refine s_tableIn (v := 2) (tgt := 135) dX8_supposed_80 c (by decide) (by decide) (by decide) rfl rfl ?_
      refine s_aload_n (pc' := 136) (x := 1) dX8_supposed_135 rfl rfl ?_
      refine s_getF (pc' := 139) (b := 60) (kc := 8) (i := 12) dX8_supposed_136 clX8 (by decide) fl_8_12 (fa_t1 sA) (fa_f8_12 sA) (fun _ => rfl) rfl ?_
      refine s_aload_n (pc' := 140) (x := 1) dX8_supposed_139 rfl rfl ?_
      refine s_get (pc' := 143) (v := vR (h28 1 2)) (kc := 8) (i := 2) dX8_supposed_140 clX8 (by decide) fl_8_2 (fa_t1 sA) (fun _ => rfl) rfl ?_
      obtain ⟨z34, V⟩ := V
      refine s_callV (pc' := 146) (av := []) (a := (h28 1 2)) (sk := [vR 60]) (kc := 5) dX8_supposed_143 ml_8_127 okX5_wakePrice oiX5_wakePrice (by decide) (NF := 12) rfl z34 rfl (Nat.le_of_ble_eq_true rfl) (Nat.le_refl 0) (Nat.le_refl 0) rfl (CI.eon (c_X5_wakePrice z34) ?_)
      refine s_aload_n (pc' := 147) (x := 1) dX8_supposed_146 rfl rfl ?_
      refine s_get (pc' := 150) (v := vR (h28 1 2)) (kc := 8) (i := 2) dX8_supposed_147 clX8 (by decide) fl_8_2 (fa_t1 sA) (fun _ => rfl) rfl ?_
      refine s_callV (pc' := 153) (av := []) (a := (h28 1 2)) (sk := [vI (h28 (h28 1 2) 10), vR 60]) (kc := 5) dX8_supposed_150 ml_8_130 okX5_stay oiX5_stay (by decide) (NF := 12) rfl z34 rfl (Nat.le_of_ble_eq_true rfl) (Nat.le_refl 0) (Nat.le_refl 0) rfl (CI.eon (c_X5_stay z34) ?_)
      refine s_callV (pc' := 156) (av := [vI (h28 (h28 1 2) 10), vI (h28 (h28 1 2) 11)]) (a := 60) (sk := []) (kc := 7) dX8_supposed_153 ml_8_198 okX7_energy oiX7_energy (by decide) (NF := 2) rfl (fa_wakes60 sA).1 rfl (Nat.le_of_ble_eq_true rfl) (Nat.le_refl 0) (Nat.le_refl 0) rfl (CI.on V (fun x36 h35 V => ?_))
      exact s_iret dX8_supposed_156 rfl ⟨_, rfl, rfl, V⟩
    have c2 := c
    have co : a3 < 0 ∨ 2 < a3 := by omega
    have V := V41 co
    refine s_tableOut (tgt := 157) dX8_supposed_80 z8 co rfl ?_
    refine s_aload_n (pc' := 158) (x := 1) dX8_supposed_157 rfl rfl ?_
    refine s_getF (pc' := 161) (b := 62) (kc := 8) (i := 13) dX8_supposed_158 clX8 (by decide) fl_8_13 (fa_t1 sA) (fa_f8_13 sA) (fun _ => rfl) rfl ?_
    obtain ⟨z38, V⟩ := V
    refine s_callV (pc' := 164) (av := []) (a := 62) (sk := []) (kc := 4) dX8_supposed_161 ml_8_277 okX4_exists oiX4_exists (by decide) (NF := 6) rfl (fa_round62 sA).1 rfl (Nat.le_of_ble_eq_true rfl) (Nat.le_refl 0) (Nat.le_refl 0) rfl (CI.eon (c_X4_exists (fa_round62 sA).1 z38) ?_)
    obtain ⟨V39, V40⟩ := V
    refine s_ifeq_b (pc' := 167) (tgt := 177) dX8_supposed_164 rfl rfl (fun c => ?_) (fun c => ?_)
    · have V := V39 c
      refine s_iconst (pc' := 178) dX8_supposed_177 rfl ?_
      exact s_iret dX8_supposed_178 rfl ⟨_, rfl, rfl, V⟩
    · have V := V40 c
      refine s_aload_n (pc' := 168) (x := 1) dX8_supposed_167 rfl rfl ?_
      refine s_getF (pc' := 171) (b := 62) (kc := 8) (i := 13) dX8_supposed_168 clX8 (by decide) fl_8_13 (fa_t1 sA) (fa_f8_13 sA) (fun _ => rfl) rfl ?_
      refine s_callV (pc' := 174) (av := []) (a := 62) (sk := []) (kc := 4) dX8_supposed_171 ml_8_286 okX4_size oiX4_size (by decide) (NF := 6) rfl (fa_round62 sA).1 rfl (Nat.le_of_ble_eq_true rfl) (Nat.le_refl 0) (Nat.le_refl 0) rfl (CI.eon (c_X4_size (fa_round62 sA).1) ?_)
      refine s_goto (tgt := 178) dX8_supposed_174 rfl ?_
      exact s_iret dX8_supposed_178 rfl ⟨_, rfl, rfl, V⟩
theorem e_X8_feed {w : WS} {h : AH} {Q : Int → AH → Prop} {a1 a2 a3 a4 a5 : Int} (X : XI mX8_feed 0 [some (vR 1), some (vI a1), some (vI a2), some (vI a3), some (vI a4), some (vI a5)] [] w h Q) : CI mX8_feed [vR 1, vI a1, vI a2, vI a3, vI a4, vI a5] w h Q := CA.of (M := mX8_feed) (by decide) rfl (Nat.le_of_ble_eq_true rfl) X
set_option maxRecDepth 20000 in
theorem r_X8_feed_0 {w : WS} {h : AH} {Q : Int → AH → Prop} {a1 a2 a3 a4 a5 : Int} (sA : shA w) (V : (inR ((h 3 1) + 20) ∧ ((((h 3 1) + 20) ≤ 600 → CV mX6_addNumber [vR 3, vI a1] w h (fun h2 => CV mX6_addNumber [vR 3, vI a2] w h2 (fun h3 => CV mX6_addNumber [vR 3, vI a3] w h3 (fun h4 => CV mX6_addNumber [vR 3, vI a4] w h4 (fun h5 => CV mX6_addNumber [vR 3, vI a5] w h5 (fun h6 => Q (h6 3 1) h6)))))) ∧ (¬ ((h 3 1) + 20) ≤ 600 → Q (-1) h)))) : XI mX8_feed 0 [some (vR 1), some (vI a1), some (vI a2), some (vI a3), some (vI a4), some (vI a5)] [] w h Q := by
  refine s_aload_n (pc' := 1) (x := 1) dX8_feed_0 rfl rfl ?_
  refine s_getF (pc' := 4) (b := 3) (kc := 8) (i := 0) dX8_feed_1 clX8 (by decide) fl_8_0 (fa_t1 sA) (fa_f8_0 sA) (fun _ => rfl) rfl ?_
  refine s_callV (pc' := 7) (av := []) (a := 3) (sk := []) (kc := 6) dX8_feed_4 ml_8_84 okX6_size oiX6_size (by decide) (NF := 6) rfl (fa_tape sA).1 rfl (Nat.le_of_ble_eq_true rfl) (Nat.le_refl 0) (Nat.le_refl 0) rfl (CI.eon (c_X6_size (fa_tape sA).1) ?_)
  refine s_bipush (pc' := 9) dX8_feed_7 (by decide) rfl ?_
  refine s_iadd (pc' := 10) dX8_feed_9 rfl ?_
  refine s_sipush (pc' := 13) dX8_feed_10 (by decide) rfl ?_
  obtain ⟨z1, V⟩ := V
  obtain ⟨V7, V8⟩ := V
  refine s_icmp_le (pc' := 16) (tgt := 18) dX8_feed_13 rfl rfl z1 (by decide) (fun c => ?_) (fun c => ?_)
  · have V := V7 c
    refine s_aload_n (pc' := 19) (x := 1) dX8_feed_18 rfl rfl ?_
    refine s_getF (pc' := 22) (b := 3) (kc := 8) (i := 0) dX8_feed_19 clX8 (by decide) fl_8_0 (fa_t1 sA) (fa_f8_0 sA) (fun _ => rfl) rfl ?_
    refine s_iload_n (pc' := 23) (x := a1) dX8_feed_22 rfl rfl ?_
    refine s_callV (pc' := 26) (av := [vI a1]) (a := 3) (sk := []) (kc := 6) dX8_feed_23 ml_8_90 okX6_addNumber oiX6_addNumber (by decide) (NF := 6) rfl (fa_tape sA).1 rfl (Nat.le_of_ble_eq_true rfl) (Nat.le_refl 0) (Nat.le_refl 0) rfl (CV.on V (fun h2 V => ?_))
    refine s_aload_n (pc' := 27) (x := 1) dX8_feed_26 rfl rfl ?_
    refine s_getF (pc' := 30) (b := 3) (kc := 8) (i := 0) dX8_feed_27 clX8 (by decide) fl_8_0 (fa_t1 sA) (fa_f8_0 sA) (fun _ => rfl) rfl ?_
    refine s_iload_n (pc' := 31) (x := a2) dX8_feed_30 rfl rfl ?_
    refine s_callV (pc' := 34) (av := [vI a2]) (a := 3) (sk := []) (kc := 6) dX8_feed_31 ml_8_90 okX6_addNumber oiX6_addNumber (by decide) (NF := 6) rfl (fa_tape sA).1 rfl (Nat.le_of_ble_eq_true rfl) (Nat.le_refl 0) (Nat.le_refl 0) rfl (CV.on V (fun h3 V => ?_))
    refine s_aload_n (pc' := 35) (x := 1) dX8_feed_34 rfl rfl ?_
    refine s_getF (pc' := 38) (b := 3) (kc := 8) (i := 0) dX8_feed_35 clX8 (by decide) fl_8_0 (fa_t1 sA) (fa_f8_0 sA) (fun _ => rfl) rfl ?_
    refine s_iload_n (pc' := 39) (x := a3) dX8_feed_38 rfl rfl ?_
    refine s_callV (pc' := 42) (av := [vI a3]) (a := 3) (sk := []) (kc := 6) dX8_feed_39 ml_8_90 okX6_addNumber oiX6_addNumber (by decide) (NF := 6) rfl (fa_tape sA).1 rfl (Nat.le_of_ble_eq_true rfl) (Nat.le_refl 0) (Nat.le_refl 0) rfl (CV.on V (fun h4 V => ?_))
    refine s_aload_n (pc' := 43) (x := 1) dX8_feed_42 rfl rfl ?_
    refine s_getF (pc' := 46) (b := 3) (kc := 8) (i := 0) dX8_feed_43 clX8 (by decide) fl_8_0 (fa_t1 sA) (fa_f8_0 sA) (fun _ => rfl) rfl ?_
    refine s_iload (pc' := 48) (x := a4) dX8_feed_46 rfl rfl ?_
    refine s_callV (pc' := 51) (av := [vI a4]) (a := 3) (sk := []) (kc := 6) dX8_feed_48 ml_8_90 okX6_addNumber oiX6_addNumber (by decide) (NF := 6) rfl (fa_tape sA).1 rfl (Nat.le_of_ble_eq_true rfl) (Nat.le_refl 0) (Nat.le_refl 0) rfl (CV.on V (fun h5 V => ?_))
    refine s_aload_n (pc' := 52) (x := 1) dX8_feed_51 rfl rfl ?_
    refine s_getF (pc' := 55) (b := 3) (kc := 8) (i := 0) dX8_feed_52 clX8 (by decide) fl_8_0 (fa_t1 sA) (fa_f8_0 sA) (fun _ => rfl) rfl ?_
    refine s_iload (pc' := 57) (x := a5) dX8_feed_55 rfl rfl ?_
    refine s_callV (pc' := 60) (av := [vI a5]) (a := 3) (sk := []) (kc := 6) dX8_feed_57 ml_8_90 okX6_addNumber oiX6_addNumber (by decide) (NF := 6) rfl (fa_tape sA).1 rfl (Nat.le_of_ble_eq_true rfl) (Nat.le_refl 0) (Nat.le_refl 0) rfl (CV.on V (fun h6 V => ?_))
    refine s_aload_n (pc' := 61) (x := 1) dX8_feed_60 rfl rfl ?_
    refine s_getF (pc' := 64) (b := 3) (kc := 8) (i := 0) dX8_feed_61 clX8 (by decide) fl_8_0 (fa_t1 sA) (fa_f8_0 sA) (fun _ => rfl) rfl ?_
    refine s_callV (pc' := 67) (av := []) (a := 3) (sk := []) (kc := 6) dX8_feed_64 ml_8_84 okX6_size oiX6_size (by decide) (NF := 6) rfl (fa_tape sA).1 rfl (Nat.le_of_ble_eq_true rfl) (Nat.le_refl 0) (Nat.le_refl 0) rfl (CI.eon (c_X6_size (fa_tape sA).1) ?_)
    exact s_iret dX8_feed_67 rfl ⟨_, rfl, rfl, V⟩
  · have V := V8 c
    refine s_iconst (pc' := 17) dX8_feed_16 rfl ?_
    exact s_iret dX8_feed_17 rfl ⟨_, rfl, rfl, V⟩
theorem e_X8_end {w : WS} {h : AH} {Q : Int → AH → Prop} {a1 : Int} (X : XI mX8_end 0 [some (vR 1), some (vI a1)] [] w h Q) : CI mX8_end [vR 1, vI a1] w h Q := CA.of (M := mX8_end) (by decide) rfl (Nat.le_of_ble_eq_true rfl) X
set_option maxRecDepth 20000 in
theorem r_X8_end_0 {w : WS} {h : AH} {Q : Int → AH → Prop} {a1 : Int} (sA : shA w) (V : (inR a1 ∧ ((a1 < 0 → Q (-1) h) ∧ (¬ a1 < 0 → (inR (h 3 1) ∧ ((a1 ≤ (h 3 1) → CV mX6_cut [vR 3, vI a1] w h (fun h3 => Q a1 h3)) ∧ (¬ a1 ≤ (h 3 1) → Q (-1) h))))))) : XI mX8_end 0 [some (vR 1), some (vI a1)] [] w h Q := by
  refine s_iload_n (pc' := 1) (x := a1) dX8_end_0 rfl rfl ?_
  obtain ⟨z1, V⟩ := V
  obtain ⟨V6, V7⟩ := V
  refine s_if_lt (pc' := 4) (tgt := 15) dX8_end_1 rfl rfl z1 (fun c => ?_) (fun c => ?_)
  · have V := V6 c
    refine s_iconst (pc' := 16) dX8_end_15 rfl ?_
    exact s_iret dX8_end_16 rfl ⟨_, rfl, rfl, V⟩
  · have V := V7 c
    refine s_iload_n (pc' := 5) (x := a1) dX8_end_4 rfl rfl ?_
    refine s_aload_n (pc' := 6) (x := 1) dX8_end_5 rfl rfl ?_
    refine s_getF (pc' := 9) (b := 3) (kc := 8) (i := 0) dX8_end_6 clX8 (by decide) fl_8_0 (fa_t1 sA) (fa_f8_0 sA) (fun _ => rfl) rfl ?_
    refine s_callV (pc' := 12) (av := []) (a := 3) (sk := [vI a1]) (kc := 6) dX8_end_9 ml_8_84 okX6_size oiX6_size (by decide) (NF := 6) rfl (fa_tape sA).1 rfl (Nat.le_of_ble_eq_true rfl) (Nat.le_refl 0) (Nat.le_refl 0) rfl (CI.eon (c_X6_size (fa_tape sA).1) ?_)
    obtain ⟨z2, V⟩ := V
    obtain ⟨V4, V5⟩ := V
    refine s_icmp_le (pc' := 15) (tgt := 17) dX8_end_12 rfl rfl z1 z2 (fun c => ?_) (fun c => ?_)
    · have V := V4 c
      refine s_aload_n (pc' := 18) (x := 1) dX8_end_17 rfl rfl ?_
      refine s_getF (pc' := 21) (b := 3) (kc := 8) (i := 0) dX8_end_18 clX8 (by decide) fl_8_0 (fa_t1 sA) (fa_f8_0 sA) (fun _ => rfl) rfl ?_
      refine s_iload_n (pc' := 22) (x := a1) dX8_end_21 rfl rfl ?_
      refine s_callV (pc' := 25) (av := [vI a1]) (a := 3) (sk := []) (kc := 6) dX8_end_22 ml_8_93 okX6_cut oiX6_cut (by decide) (NF := 6) rfl (fa_tape sA).1 rfl (Nat.le_of_ble_eq_true rfl) (Nat.le_refl 0) (Nat.le_refl 0) rfl (CV.on V (fun h3 V => ?_))
      refine s_iload_n (pc' := 26) (x := a1) dX8_end_25 rfl rfl ?_
      exact s_iret dX8_end_26 rfl ⟨_, rfl, rfl, V⟩
    · have V := V5 c
      refine s_iconst (pc' := 16) dX8_end_15 rfl ?_
      exact s_iret dX8_end_16 rfl ⟨_, rfl, rfl, V⟩
theorem e_X8_text {w : WS} {h : AH} {Q : Int → AH → Prop} (X : XI mX8_text 0 [some (vR 1), none, none] [] w h Q) : CI mX8_text [vR 1] w h Q := CA.of (M := mX8_text) (by decide) rfl (Nat.le_of_ble_eq_true rfl) X
set_option maxRecDepth 20000 in
theorem r_X8_text_0 {w : WS} {h : AH} {Q : Int → AH → Prop} (sA : shA w) (V : CI mX3_read [vR 2, vR (h 1 3)] w h (fun x2 h1 => CV mX6_cut [vR 3, vI 0] w h1 (fun h3 => (inR x2 ∧ ((¬ x2 = 0 → (∀ h5, h5 = st h3 1 2 (h3 1 3) → (∀ h7, h7 = st h5 1 3 (h3 1 2) → CV mX0_gather [vR 21, vR (h7 1 2)] w h7 (fun h9 => CV mX0_gather [vR 55, vR (h9 1 2)] w h9 (fun h10 => CV mX8_takeClasses [vR 1] w h10 (fun h11 => CV mX1_begin [vR 44, vR 21] w h11 (fun h12 => (wt w (h12 1 2) = 15 ∧ Q (h12 (h12 1 2) 8) h12)))))))) ∧ (x2 = 0 → Q (-1) h3)))))) : XI mX8_text 0 [some (vR 1), none, none] [] w h Q := by
  refine s_aload_n (pc' := 1) (x := 1) dX8_text_0 rfl rfl ?_
  refine s_getF (pc' := 4) (b := 2) (kc := 8) (i := 1) dX8_text_1 clX8 (by decide) fl_8_1 (fa_t1 sA) (fa_f8_1 sA) (fun _ => rfl) rfl ?_
  refine s_aload_n (pc' := 5) (x := 1) dX8_text_4 rfl rfl ?_
  refine s_get (pc' := 8) (v := vR (h 1 3)) (kc := 8) (i := 3) dX8_text_5 clX8 (by decide) fl_8_3 (fa_t1 sA) (fun _ => rfl) rfl ?_
  refine s_callV (pc' := 11) (av := [vR (h 1 3)]) (a := 2) (sk := []) (kc := 3) dX8_text_8 ml_8_96 okX3_read oiX3_read (by decide) (NF := 3) rfl (fa_t2 sA) rfl (Nat.le_of_ble_eq_true rfl) (Nat.le_refl 0) (Nat.le_refl 0) rfl (CI.on V (fun x2 h1 V => ?_))
  refine s_istore_n (pc' := 12) (ls' := [some (vR 1), some (vI x2), none]) dX8_text_11 (by decide) rfl rfl ?_
  refine s_aload_n (pc' := 13) (x := 1) dX8_text_12 rfl rfl ?_
  refine s_getF (pc' := 16) (b := 3) (kc := 8) (i := 0) dX8_text_13 clX8 (by decide) fl_8_0 (fa_t1 sA) (fa_f8_0 sA) (fun _ => rfl) rfl ?_
  refine s_iconst (pc' := 17) dX8_text_16 rfl ?_
  refine s_callV (pc' := 20) (av := [vI 0]) (a := 3) (sk := []) (kc := 6) dX8_text_17 ml_8_93 okX6_cut oiX6_cut (by decide) (NF := 6) rfl (fa_tape sA).1 rfl (Nat.le_of_ble_eq_true rfl) (Nat.le_refl 0) (Nat.le_refl 0) rfl (CV.on V (fun h3 V => ?_))
  refine s_iload_n (pc' := 21) (x := x2) dX8_text_20 rfl rfl ?_
  obtain ⟨z4, V⟩ := V
  obtain ⟨V14, V15⟩ := V
  refine s_if_ne (pc' := 24) (tgt := 26) dX8_text_21 rfl rfl z4 (fun c => ?_) (fun c => ?_)
  · have V := V14 c
    refine s_aload_n (pc' := 27) (x := 1) dX8_text_26 rfl rfl ?_
    refine s_get (pc' := 30) (v := vR (h3 1 2)) (kc := 8) (i := 2) dX8_text_27 clX8 (by decide) fl_8_2 (fa_t1 sA) (fun _ => rfl) rfl ?_
    refine s_astore_n (pc' := 31) (ls' := [some (vR 1), some (vI x2), some (vR (h3 1 2))]) dX8_text_30 (by decide) rfl rfl ?_
    refine s_aload_n (pc' := 32) (x := 1) dX8_text_31 rfl rfl ?_
    refine s_aload_n (pc' := 33) (x := 1) dX8_text_32 rfl rfl ?_
    refine s_get (pc' := 36) (v := vR (h3 1 3)) (kc := 8) (i := 3) dX8_text_33 clX8 (by decide) fl_8_3 (fa_t1 sA) (fun _ => rfl) rfl ?_
    refine s_put (pc' := 39) (v := vR (h3 1 3)) (x := (h3 1 3)) (kc := 8) (i := 2) dX8_text_36 clX8 (by decide) fl_8_2 rfl (fa_t1 sA) (fun E => nar_ref E _ _ rfl) (fun _ _ => rfl) (j0 := 2) rfl rfl ?_
    obtain ⟨h5, e6⟩ : ∃ q, q = st h3 1 2 (h3 1 3) := ⟨_, rfl⟩
    rw [← e6]
    have V := V h5 e6
    refine s_aload_n (pc' := 40) (x := 1) dX8_text_39 rfl rfl ?_
    refine s_aload_n (pc' := 41) (x := (h3 1 2)) dX8_text_40 rfl rfl ?_
    refine s_put (pc' := 44) (v := vR (h3 1 2)) (x := (h3 1 2)) (kc := 8) (i := 3) dX8_text_41 clX8 (by decide) fl_8_3 rfl (fa_t1 sA) (fun E => nar_ref E _ _ rfl) (fun _ _ => rfl) (j0 := 3) rfl rfl ?_
    obtain ⟨h7, e8⟩ : ∃ q, q = st h5 1 3 (h3 1 2) := ⟨_, rfl⟩
    rw [← e8]
    have V := V h7 e8
    refine s_aload_n (pc' := 45) (x := 1) dX8_text_44 rfl rfl ?_
    refine s_getF (pc' := 48) (b := 21) (kc := 8) (i := 4) dX8_text_45 clX8 (by decide) fl_8_4 (fa_t1 sA) (fa_f8_4 sA) (fun _ => rfl) rfl ?_
    refine s_aload_n (pc' := 49) (x := 1) dX8_text_48 rfl rfl ?_
    refine s_get (pc' := 52) (v := vR (h7 1 2)) (kc := 8) (i := 2) dX8_text_49 clX8 (by decide) fl_8_2 (fa_t1 sA) (fun _ => rfl) rfl ?_
    refine s_callV (pc' := 55) (av := [vR (h7 1 2)]) (a := 21) (sk := []) (kc := 0) dX8_text_52 ml_8_100 okX0_gather oiX0_gather (by decide) (NF := 5) rfl (fa_calls21 sA).1 rfl (Nat.le_of_ble_eq_true rfl) (Nat.le_refl 0) (Nat.le_refl 0) rfl (CV.on V (fun h9 V => ?_))
    refine s_aload_n (pc' := 56) (x := 1) dX8_text_55 rfl rfl ?_
    refine s_getF (pc' := 59) (b := 55) (kc := 8) (i := 11) dX8_text_56 clX8 (by decide) fl_8_11 (fa_t1 sA) (fa_f8_11 sA) (fun _ => rfl) rfl ?_
    refine s_aload_n (pc' := 60) (x := 1) dX8_text_59 rfl rfl ?_
    refine s_get (pc' := 63) (v := vR (h9 1 2)) (kc := 8) (i := 2) dX8_text_60 clX8 (by decide) fl_8_2 (fa_t1 sA) (fun _ => rfl) rfl ?_
    refine s_callV (pc' := 66) (av := [vR (h9 1 2)]) (a := 55) (sk := []) (kc := 0) dX8_text_63 ml_8_100 okX0_gather oiX0_gather (by decide) (NF := 5) rfl (fa_calls55 sA).1 rfl (Nat.le_of_ble_eq_true rfl) (Nat.le_refl 0) (Nat.le_refl 0) rfl (CV.on V (fun h10 V => ?_))
    refine s_aload_n (pc' := 67) (x := 1) dX8_text_66 rfl rfl ?_
    refine s_callV (pc' := 70) (av := []) (a := 1) (sk := []) (kc := 8) dX8_text_67 ml_8_104 okX8_takeClasses oiX8_takeClasses (by decide) (NF := 14) rfl (fa_t1 sA) rfl (Nat.le_of_ble_eq_true rfl) (Nat.le_refl 0) (Nat.le_refl 0) rfl (CV.on V (fun h11 V => ?_))
    refine s_aload_n (pc' := 71) (x := 1) dX8_text_70 rfl rfl ?_
    refine s_getF (pc' := 74) (b := 44) (kc := 8) (i := 8) dX8_text_71 clX8 (by decide) fl_8_8 (fa_t1 sA) (fa_f8_8 sA) (fun _ => rfl) rfl ?_
    refine s_aload_n (pc' := 75) (x := 1) dX8_text_74 rfl rfl ?_
    refine s_getF (pc' := 78) (b := 21) (kc := 8) (i := 4) dX8_text_75 clX8 (by decide) fl_8_4 (fa_t1 sA) (fa_f8_4 sA) (fun _ => rfl) rfl ?_
    refine s_callV (pc' := 81) (av := [vR 21]) (a := 44) (sk := []) (kc := 1) dX8_text_78 ml_8_107 okX1_begin oiX1_begin (by decide) (NF := 11) rfl (fa_hand sA).1 rfl (Nat.le_of_ble_eq_true rfl) (Nat.le_refl 0) (Nat.le_refl 0) rfl (CV.on V (fun h12 V => ?_))
    refine s_aload_n (pc' := 82) (x := 1) dX8_text_81 rfl rfl ?_
    refine s_get (pc' := 85) (v := vR (h12 1 2)) (kc := 8) (i := 2) dX8_text_82 clX8 (by decide) fl_8_2 (fa_t1 sA) (fun _ => rfl) rfl ?_
    obtain ⟨z13, V⟩ := V
    refine s_callV (pc' := 88) (av := []) (a := (h12 1 2)) (sk := []) (kc := 5) dX8_text_85 ml_8_111 okX5_timers oiX5_timers (by decide) (NF := 12) rfl z13 rfl (Nat.le_of_ble_eq_true rfl) (Nat.le_refl 0) (Nat.le_refl 0) rfl (CI.eon (c_X5_timers z13) ?_)
    exact s_iret dX8_text_88 rfl ⟨_, rfl, rfl, V⟩
  · have V := V15 c
    refine s_iconst (pc' := 25) dX8_text_24 rfl ?_
    exact s_iret dX8_text_25 rfl ⟨_, rfl, rfl, V⟩
theorem e_X8_fault {w : WS} {h : AH} {Q : Int → AH → Prop} {a1 : Int} (X : XI mX8_fault 0 [some (vR 1), some (vI a1)] [] w h Q) : CI mX8_fault [vR 1, vI a1] w h Q := CA.of (M := mX8_fault) (by decide) rfl (Nat.le_of_ble_eq_true rfl) X
set_option maxRecDepth 20000 in
theorem r_X8_fault_0 {w : WS} {h : AH} {Q : Int → AH → Prop} {a1 : Int} (sA : shA w) (V : (inR a1 ∧ (((a1 = 0) → Q (h 2 1) h) ∧ ((a1 = 1) → Q (h 2 2) h) ∧ ((¬ a1 = 0 ∧ ¬ a1 = 1) → Q (-1) h)))) : XI mX8_fault 0 [some (vR 1), some (vI a1)] [] w h Q := by
  refine s_iload_n (pc' := 1) (x := a1) dX8_fault_0 rfl rfl ?_
  obtain ⟨z1, V⟩ := V
  obtain ⟨V2, V3, V4⟩ := V
  by_cases c : a1 = 0
  · have V := V2 c
    refine s_lookup (off := 27) (tgt := 28) dX8_fault_1 (by decide) z1 (by rw [c]; decide) rfl ?_
    refine s_aload_n (pc' := 29) (x := 1) dX8_fault_28 rfl rfl ?_
    refine s_getF (pc' := 32) (b := 2) (kc := 8) (i := 1) dX8_fault_29 clX8 (by decide) fl_8_1 (fa_t1 sA) (fa_f8_1 sA) (fun _ => rfl) rfl ?_
    refine s_callV (pc' := 35) (av := []) (a := 2) (sk := []) (kc := 3) dX8_fault_32 ml_8_114 okX3_latestFault oiX3_latestFault (by decide) (NF := 3) rfl (fa_t2 sA) rfl (Nat.le_of_ble_eq_true rfl) (Nat.le_refl 0) (Nat.le_refl 0) rfl (CI.eon (c_X3_latestFault sA) ?_)
    exact s_iret dX8_fault_35 rfl ⟨_, rfl, rfl, V⟩
  have c0 := c
  by_cases c : a1 = 1
  · have V := V3 c
    refine s_lookup (off := 35) (tgt := 36) dX8_fault_1 (by decide) z1 (by rw [c]; decide) rfl ?_
    refine s_aload_n (pc' := 37) (x := 1) dX8_fault_36 rfl rfl ?_
    refine s_getF (pc' := 40) (b := 2) (kc := 8) (i := 1) dX8_fault_37 clX8 (by decide) fl_8_1 (fa_t1 sA) (fa_f8_1 sA) (fun _ => rfl) rfl ?_
    refine s_callV (pc' := 43) (av := []) (a := 2) (sk := []) (kc := 3) dX8_fault_40 ml_8_117 okX3_faultPlace oiX3_faultPlace (by decide) (NF := 3) rfl (fa_t2 sA) rfl (Nat.le_of_ble_eq_true rfl) (Nat.le_refl 0) (Nat.le_refl 0) rfl (CI.eon (c_X3_faultPlace sA) ?_)
    exact s_iret dX8_fault_43 rfl ⟨_, rfl, rfl, V⟩
  have c1 := c
  have co : ¬ a1 = 0 ∧ ¬ a1 = 1 := by omega
  have V := V4 co
  refine s_lookup (off := 43) (tgt := 44) dX8_fault_1 (by decide) z1 (by simp only [Op.lookupswitch.offset_cons, Op.lookupswitch.offset_nil]; rw [if_neg (by omega), if_neg (by omega)]) rfl ?_
  refine s_iconst (pc' := 45) dX8_fault_44 rfl ?_
  exact s_iret dX8_fault_45 rfl ⟨_, rfl, rfl, V⟩
theorem e_X8_count {w : WS} {h : AH} {Q : Int → AH → Prop} {a1 : Int} (X : XI mX8_count 0 [some (vR 1), some (vI a1)] [] w h Q) : CI mX8_count [vR 1, vI a1] w h Q := CA.of (M := mX8_count) (by decide) rfl (Nat.le_of_ble_eq_true rfl) X
set_option maxRecDepth 20000 in
theorem r_X8_count_0 {w : WS} {h : AH} {Q : Int → AH → Prop} {a1 : Int} (sA : shA w) (V : (inR a1 ∧ ((a1 = 0 → (wt w (h 1 2) = 15 ∧ Q (h (h 1 2) 4) h)) ∧ (a1 = 1 → (wt w (h 1 2) = 15 ∧ Q (h (h 1 2) 8) h)) ∧ (a1 = 2 → Q (h 21 4) h) ∧ (a1 = 3 → (wt w (h 1 2) = 15 ∧ Q (h (h 1 2) 9) h)) ∧ (a1 = 4 → (wt w (h 1 2) = 15 ∧ Q (h (h 1 2) 10) h)) ∧ (a1 = 5 → (wt w (h 1 2) = 15 ∧ Q (h (h 1 2) 11) h)) ∧ (a1 = 6 → Q (h 44 9) h) ∧ (a1 = 7 → Q (h 44 10) h) ∧ (a1 = 8 → Q (h 3 1) h) ∧ ((a1 < 0 ∨ 8 < a1) → Q (-1) h)))) : XI mX8_count 0 [some (vR 1), some (vI a1)] [] w h Q := by
  refine s_iload_n (pc' := 1) (x := a1) dX8_count_0 rfl rfl ?_
  obtain ⟨z1, V⟩ := V
  obtain ⟨V3, V5, V6, V8, V10, V12, V13, V14, V15, V16⟩ := V
  by_cases c : a1 = 0
  · have V := V3 c
    refine s_tableIn (v := 0) (tgt := 52) dX8_count_1 c (by decide) (by decide) (by decide) rfl rfl ?_
    refine s_aload_n (pc' := 53) (x := 1) dX8_count_52 rfl rfl ?_
    refine s_get (pc' := 56) (v := vR (h 1 2)) (kc := 8) (i := 2) dX8_count_53 clX8 (by decide) fl_8_2 (fa_t1 sA) (fun _ => rfl) rfl ?_
    obtain ⟨z2, V⟩ := V
    refine s_callV (pc' := 59) (av := []) (a := (h 1 2)) (sk := []) (kc := 5) dX8_count_56 ml_8_120 okX5_kinds oiX5_kinds (by decide) (NF := 12) rfl z2 rfl (Nat.le_of_ble_eq_true rfl) (Nat.le_refl 0) (Nat.le_refl 0) rfl (CI.eon (c_X5_kinds z2) ?_)
    exact s_iret dX8_count_59 rfl ⟨_, rfl, rfl, V⟩
  have c0 := c
  by_cases c : a1 = 1
  · have V := V5 c
    refine s_tableIn (v := 1) (tgt := 60) dX8_count_1 c (by decide) (by decide) (by decide) rfl rfl ?_
    refine s_aload_n (pc' := 61) (x := 1) dX8_count_60 rfl rfl ?_
    refine s_get (pc' := 64) (v := vR (h 1 2)) (kc := 8) (i := 2) dX8_count_61 clX8 (by decide) fl_8_2 (fa_t1 sA) (fun _ => rfl) rfl ?_
    obtain ⟨z4, V⟩ := V
    refine s_callV (pc' := 67) (av := []) (a := (h 1 2)) (sk := []) (kc := 5) dX8_count_64 ml_8_111 okX5_timers oiX5_timers (by decide) (NF := 12) rfl z4 rfl (Nat.le_of_ble_eq_true rfl) (Nat.le_refl 0) (Nat.le_refl 0) rfl (CI.eon (c_X5_timers z4) ?_)
    exact s_iret dX8_count_67 rfl ⟨_, rfl, rfl, V⟩
  have c1 := c
  by_cases c : a1 = 2
  · have V := V6 c
    refine s_tableIn (v := 2) (tgt := 68) dX8_count_1 c (by decide) (by decide) (by decide) rfl rfl ?_
    refine s_aload_n (pc' := 69) (x := 1) dX8_count_68 rfl rfl ?_
    refine s_getF (pc' := 72) (b := 21) (kc := 8) (i := 4) dX8_count_69 clX8 (by decide) fl_8_4 (fa_t1 sA) (fa_f8_4 sA) (fun _ => rfl) rfl ?_
    refine s_callV (pc' := 75) (av := []) (a := 21) (sk := []) (kc := 0) dX8_count_72 ml_8_123 okX0_size oiX0_size (by decide) (NF := 5) rfl (fa_calls21 sA).1 rfl (Nat.le_of_ble_eq_true rfl) (Nat.le_refl 0) (Nat.le_refl 0) rfl (CI.eon (c_X0_size (fa_calls21 sA).1) ?_)
    exact s_iret dX8_count_75 rfl ⟨_, rfl, rfl, V⟩
  have c2 := c
  by_cases c : a1 = 3
  · have V := V8 c
    refine s_tableIn (v := 3) (tgt := 76) dX8_count_1 c (by decide) (by decide) (by decide) rfl rfl ?_
    refine s_aload_n (pc' := 77) (x := 1) dX8_count_76 rfl rfl ?_
    refine s_get (pc' := 80) (v := vR (h 1 2)) (kc := 8) (i := 2) dX8_count_77 clX8 (by decide) fl_8_2 (fa_t1 sA) (fun _ => rfl) rfl ?_
    obtain ⟨z7, V⟩ := V
    refine s_callV (pc' := 83) (av := []) (a := (h 1 2)) (sk := []) (kc := 5) dX8_count_80 ml_8_124 okX5_length oiX5_length (by decide) (NF := 12) rfl z7 rfl (Nat.le_of_ble_eq_true rfl) (Nat.le_refl 0) (Nat.le_refl 0) rfl (CI.eon (c_X5_length z7) ?_)
    exact s_iret dX8_count_83 rfl ⟨_, rfl, rfl, V⟩
  have c3 := c
  by_cases c : a1 = 4
  · have V := V10 c
    refine s_tableIn (v := 4) (tgt := 84) dX8_count_1 c (by decide) (by decide) (by decide) rfl rfl ?_
    refine s_aload_n (pc' := 85) (x := 1) dX8_count_84 rfl rfl ?_
    refine s_get (pc' := 88) (v := vR (h 1 2)) (kc := 8) (i := 2) dX8_count_85 clX8 (by decide) fl_8_2 (fa_t1 sA) (fun _ => rfl) rfl ?_
    obtain ⟨z9, V⟩ := V
    refine s_callV (pc' := 91) (av := []) (a := (h 1 2)) (sk := []) (kc := 5) dX8_count_88 ml_8_127 okX5_wakePrice oiX5_wakePrice (by decide) (NF := 12) rfl z9 rfl (Nat.le_of_ble_eq_true rfl) (Nat.le_refl 0) (Nat.le_refl 0) rfl (CI.eon (c_X5_wakePrice z9) ?_)
    exact s_iret dX8_count_91 rfl ⟨_, rfl, rfl, V⟩
  have c4 := c
  by_cases c : a1 = 5
  · have V := V12 c
    refine s_tableIn (v := 5) (tgt := 92) dX8_count_1 c (by decide) (by decide) (by decide) rfl rfl ?_
    refine s_aload_n (pc' := 93) (x := 1) dX8_count_92 rfl rfl ?_
    refine s_get (pc' := 96) (v := vR (h 1 2)) (kc := 8) (i := 2) dX8_count_93 clX8 (by decide) fl_8_2 (fa_t1 sA) (fun _ => rfl) rfl ?_
    obtain ⟨z11, V⟩ := V
    refine s_callV (pc' := 99) (av := []) (a := (h 1 2)) (sk := []) (kc := 5) dX8_count_96 ml_8_130 okX5_stay oiX5_stay (by decide) (NF := 12) rfl z11 rfl (Nat.le_of_ble_eq_true rfl) (Nat.le_refl 0) (Nat.le_refl 0) rfl (CI.eon (c_X5_stay z11) ?_)
    exact s_iret dX8_count_99 rfl ⟨_, rfl, rfl, V⟩
  have c5 := c
  by_cases c : a1 = 6
  · have V := V13 c
    refine s_tableIn (v := 6) (tgt := 100) dX8_count_1 c (by decide) (by decide) (by decide) rfl rfl ?_
    refine s_aload_n (pc' := 101) (x := 1) dX8_count_100 rfl rfl ?_
    refine s_getF (pc' := 104) (b := 44) (kc := 8) (i := 8) dX8_count_101 clX8 (by decide) fl_8_8 (fa_t1 sA) (fa_f8_8 sA) (fun _ => rfl) rfl ?_
    refine s_callV (pc' := 107) (av := []) (a := 44) (sk := []) (kc := 1) dX8_count_104 ml_8_133 okX1_tick oiX1_tick (by decide) (NF := 11) rfl (fa_hand sA).1 rfl (Nat.le_of_ble_eq_true rfl) (Nat.le_refl 0) (Nat.le_refl 0) rfl (CI.eon (c_X1_tick (fa_hand sA).1) ?_)
    exact s_iret dX8_count_107 rfl ⟨_, rfl, rfl, V⟩
  have c6 := c
  by_cases c : a1 = 7
  · have V := V14 c
    refine s_tableIn (v := 7) (tgt := 108) dX8_count_1 c (by decide) (by decide) (by decide) rfl rfl ?_
    refine s_aload_n (pc' := 109) (x := 1) dX8_count_108 rfl rfl ?_
    refine s_getF (pc' := 112) (b := 44) (kc := 8) (i := 8) dX8_count_109 clX8 (by decide) fl_8_8 (fa_t1 sA) (fa_f8_8 sA) (fun _ => rfl) rfl ?_
    refine s_callV (pc' := 115) (av := []) (a := 44) (sk := []) (kc := 1) dX8_count_112 ml_8_136 okX1_ruleNow oiX1_ruleNow (by decide) (NF := 11) rfl (fa_hand sA).1 rfl (Nat.le_of_ble_eq_true rfl) (Nat.le_refl 0) (Nat.le_refl 0) rfl (CI.eon (c_X1_ruleNow (fa_hand sA).1) ?_)
    exact s_iret dX8_count_115 rfl ⟨_, rfl, rfl, V⟩
  have c7 := c
  by_cases c : a1 = 8
  · have V := V15 c
    refine s_tableIn (v := 8) (tgt := 116) dX8_count_1 c (by decide) (by decide) (by decide) rfl rfl ?_
    refine s_aload_n (pc' := 117) (x := 1) dX8_count_116 rfl rfl ?_
    refine s_getF (pc' := 120) (b := 3) (kc := 8) (i := 0) dX8_count_117 clX8 (by decide) fl_8_0 (fa_t1 sA) (fa_f8_0 sA) (fun _ => rfl) rfl ?_
    refine s_callV (pc' := 123) (av := []) (a := 3) (sk := []) (kc := 6) dX8_count_120 ml_8_84 okX6_size oiX6_size (by decide) (NF := 6) rfl (fa_tape sA).1 rfl (Nat.le_of_ble_eq_true rfl) (Nat.le_refl 0) (Nat.le_refl 0) rfl (CI.eon (c_X6_size (fa_tape sA).1) ?_)
    exact s_iret dX8_count_123 rfl ⟨_, rfl, rfl, V⟩
  have c8 := c
  have co : a1 < 0 ∨ 8 < a1 := by omega
  have V := V16 co
  refine s_tableOut (tgt := 124) dX8_count_1 z1 co rfl ?_
  refine s_iconst (pc' := 125) dX8_count_124 rfl ?_
  exact s_iret dX8_count_125 rfl ⟨_, rfl, rfl, V⟩
theorem e_X8_kind {w : WS} {h : AH} {Q : Int → AH → Prop} {a1 a2 : Int} (X : XI mX8_kind 0 [some (vR 1), some (vI a1), some (vI a2)] [] w h Q) : CI mX8_kind [vR 1, vI a1, vI a2] w h Q := CA.of (M := mX8_kind) (by decide) rfl (Nat.le_of_ble_eq_true rfl) X
set_option maxRecDepth 20000 in
theorem r_X8_kind_0 {w : WS} {h : AH} {Q : Int → AH → Prop} {a1 a2 : Int} (sA : shA w) (V : (wt w (h 1 2) = 15 ∧ inR a1 ∧ inR (h (h 1 2) 4) ∧ (((0 ≤ a1 ∧ a1 < h (h 1 2) 4) → (inR a2 ∧ ((a2 = 0 → (shSetup w (h 1 2) ∧ (0 ≤ h (h 1 2) 4 ∧ h (h 1 2) 4 ≤ 8) ∧ Q (if 0 ≤ a1 ∧ a1 < h (h 1 2) 4 then h ((h 1 2) + 2) a1 else -1) h)) ∧ (a2 = 1 → CI mX5_slackOf [vR (h 1 2), vI a1] w h (fun x9 h8 => Q x9 h8)) ∧ (a2 = 2 → CI mX5_weightOf [vR (h 1 2), vI a1] w h (fun x12 h11 => Q x12 h11)) ∧ (a2 = 3 → (shSetup w (h 1 2) ∧ (0 ≤ h (h 1 2) 4 ∧ h (h 1 2) 4 ≤ 8) ∧ Q (if 0 ≤ a1 ∧ a1 < h (h 1 2) 4 then h ((h 1 2) + 3) a1 else -1) h)) ∧ (a2 = 4 → (shSetup w (h 1 2) ∧ (0 ≤ h (h 1 2) 4 ∧ h (h 1 2) 4 ≤ 8) ∧ Q (if 0 ≤ a1 ∧ a1 < h (h 1 2) 4 then h ((h 1 2) + 4) a1 else -1) h)) ∧ (a2 = 5 → CI mX5_timersOf [vR (h 1 2), vI a1] w h (fun x21 h20 => Q x21 h20)) ∧ (a2 = 6 → CI mX5_heirsOf [vR (h 1 2), vI a1] w h (fun x24 h23 => Q x24 h23)) ∧ ((a2 < 0 ∨ 6 < a2) → Q (-1) h)))) ∧ (¬ (0 ≤ a1 ∧ a1 < h (h 1 2) 4) → Q (-1) h)))) : XI mX8_kind 0 [some (vR 1), some (vI a1), some (vI a2)] [] w h Q := by
  refine s_aload_n (pc' := 1) (x := 1) dX8_kind_0 rfl rfl ?_
  refine s_get (pc' := 4) (v := vR (h 1 2)) (kc := 8) (i := 2) dX8_kind_1 clX8 (by decide) fl_8_2 (fa_t1 sA) (fun _ => rfl) rfl ?_
  refine s_iload_n (pc' := 5) (x := a1) dX8_kind_4 rfl rfl ?_
  obtain ⟨z1, z2, z3, V⟩ := V
  refine s_callV (pc' := 8) (av := [vI a1]) (a := (h 1 2)) (sk := []) (kc := 5) dX8_kind_5 ml_8_139 okX5_hasKind oiX5_hasKind (by decide) (NF := 12) rfl z1 rfl (Nat.le_of_ble_eq_true rfl) (Nat.le_refl 0) (Nat.le_refl 0) rfl (CI.eon (c_X5_hasKind z1 z2 z3) ?_)
  obtain ⟨V27, V28⟩ := V
  refine s_ifne_b (pc' := 11) (tgt := 13) dX8_kind_8 rfl rfl (fun c => ?_) (fun c => ?_)
  · have V := V27 c
    refine s_iload_n (pc' := 14) (x := a2) dX8_kind_13 rfl rfl ?_
    obtain ⟨z4, V⟩ := V
    obtain ⟨V7, V10, V13, V16, V19, V22, V25, V26⟩ := V
    by_cases c : a2 = 0
    · have V := V7 c
      refine s_tableIn (v := 0) (tgt := 56) dX8_kind_14 c (by decide) (by decide) (by decide) rfl rfl ?_
      refine s_aload_n (pc' := 57) (x := 1) dX8_kind_56 rfl rfl ?_
      refine s_get (pc' := 60) (v := vR (h 1 2)) (kc := 8) (i := 2) dX8_kind_57 clX8 (by decide) fl_8_2 (fa_t1 sA) (fun _ => rfl) rfl ?_
      refine s_iload_n (pc' := 61) (x := a1) dX8_kind_60 rfl rfl ?_
      obtain ⟨z5, z6, V⟩ := V
      refine s_callV (pc' := 64) (av := [vI a1]) (a := (h 1 2)) (sk := []) (kc := 5) dX8_kind_61 ml_8_143 okX5_parentOf oiX5_parentOf (by decide) (NF := 12) rfl z1 rfl (Nat.le_of_ble_eq_true rfl) (Nat.le_refl 0) (Nat.le_refl 0) rfl (CI.eon (c_X5_parentOf z5 z2 z6) ?_)
      exact s_iret dX8_kind_64 rfl ⟨_, rfl, rfl, V⟩
    have c0 := c
    by_cases c : a2 = 1
    · have V := V10 c
      refine s_tableIn (v := 1) (tgt := 65) dX8_kind_14 c (by decide) (by decide) (by decide) rfl rfl ?_
      refine s_aload_n (pc' := 66) (x := 1) dX8_kind_65 rfl rfl ?_
      refine s_get (pc' := 69) (v := vR (h 1 2)) (kc := 8) (i := 2) dX8_kind_66 clX8 (by decide) fl_8_2 (fa_t1 sA) (fun _ => rfl) rfl ?_
      refine s_iload_n (pc' := 70) (x := a1) dX8_kind_69 rfl rfl ?_
      refine s_callV (pc' := 73) (av := [vI a1]) (a := (h 1 2)) (sk := []) (kc := 5) dX8_kind_70 ml_8_147 okX5_slackOf oiX5_slackOf (by decide) (NF := 12) rfl z1 rfl (Nat.le_of_ble_eq_true rfl) (Nat.le_refl 0) (Nat.le_refl 0) rfl (CI.on V (fun x9 h8 V => ?_))
      exact s_iret dX8_kind_73 rfl ⟨_, rfl, rfl, V⟩
    have c1 := c
    by_cases c : a2 = 2
    · have V := V13 c
      refine s_tableIn (v := 2) (tgt := 74) dX8_kind_14 c (by decide) (by decide) (by decide) rfl rfl ?_
      refine s_aload_n (pc' := 75) (x := 1) dX8_kind_74 rfl rfl ?_
      refine s_get (pc' := 78) (v := vR (h 1 2)) (kc := 8) (i := 2) dX8_kind_75 clX8 (by decide) fl_8_2 (fa_t1 sA) (fun _ => rfl) rfl ?_
      refine s_iload_n (pc' := 79) (x := a1) dX8_kind_78 rfl rfl ?_
      refine s_callV (pc' := 82) (av := [vI a1]) (a := (h 1 2)) (sk := []) (kc := 5) dX8_kind_79 ml_8_150 okX5_weightOf oiX5_weightOf (by decide) (NF := 12) rfl z1 rfl (Nat.le_of_ble_eq_true rfl) (Nat.le_refl 0) (Nat.le_refl 0) rfl (CI.on V (fun x12 h11 V => ?_))
      exact s_iret dX8_kind_82 rfl ⟨_, rfl, rfl, V⟩
    have c2 := c
    by_cases c : a2 = 3
    · have V := V16 c
      refine s_tableIn (v := 3) (tgt := 83) dX8_kind_14 c (by decide) (by decide) (by decide) rfl rfl ?_
      refine s_aload_n (pc' := 84) (x := 1) dX8_kind_83 rfl rfl ?_
      refine s_get (pc' := 87) (v := vR (h 1 2)) (kc := 8) (i := 2) dX8_kind_84 clX8 (by decide) fl_8_2 (fa_t1 sA) (fun _ => rfl) rfl ?_
      refine s_iload_n (pc' := 88) (x := a1) dX8_kind_87 rfl rfl ?_
      obtain ⟨z14, z15, V⟩ := V
      refine s_callV (pc' := 91) (av := [vI a1]) (a := (h 1 2)) (sk := []) (kc := 5) dX8_kind_88 ml_8_153 okX5_ownSlack oiX5_ownSlack (by decide) (NF := 12) rfl z1 rfl (Nat.le_of_ble_eq_true rfl) (Nat.le_refl 0) (Nat.le_refl 0) rfl (CI.eon (c_X5_ownSlack z14 z2 z15) ?_)
      exact s_iret dX8_kind_91 rfl ⟨_, rfl, rfl, V⟩
    have c3 := c
    by_cases c : a2 = 4
    · have V := V19 c
      refine s_tableIn (v := 4) (tgt := 92) dX8_kind_14 c (by decide) (by decide) (by decide) rfl rfl ?_
      refine s_aload_n (pc' := 93) (x := 1) dX8_kind_92 rfl rfl ?_
      refine s_get (pc' := 96) (v := vR (h 1 2)) (kc := 8) (i := 2) dX8_kind_93 clX8 (by decide) fl_8_2 (fa_t1 sA) (fun _ => rfl) rfl ?_
      refine s_iload_n (pc' := 97) (x := a1) dX8_kind_96 rfl rfl ?_
      obtain ⟨z17, z18, V⟩ := V
      refine s_callV (pc' := 100) (av := [vI a1]) (a := (h 1 2)) (sk := []) (kc := 5) dX8_kind_97 ml_8_156 okX5_ownWeight oiX5_ownWeight (by decide) (NF := 12) rfl z1 rfl (Nat.le_of_ble_eq_true rfl) (Nat.le_refl 0) (Nat.le_refl 0) rfl (CI.eon (c_X5_ownWeight z17 z2 z18) ?_)
      exact s_iret dX8_kind_100 rfl ⟨_, rfl, rfl, V⟩
    have c4 := c
    by_cases c : a2 = 5
    · have V := V22 c
      refine s_tableIn (v := 5) (tgt := 101) dX8_kind_14 c (by decide) (by decide) (by decide) rfl rfl ?_
      refine s_aload_n (pc' := 102) (x := 1) dX8_kind_101 rfl rfl ?_
      refine s_get (pc' := 105) (v := vR (h 1 2)) (kc := 8) (i := 2) dX8_kind_102 clX8 (by decide) fl_8_2 (fa_t1 sA) (fun _ => rfl) rfl ?_
      refine s_iload_n (pc' := 106) (x := a1) dX8_kind_105 rfl rfl ?_
      refine s_callV (pc' := 109) (av := [vI a1]) (a := (h 1 2)) (sk := []) (kc := 5) dX8_kind_106 ml_8_159 okX5_timersOf oiX5_timersOf (by decide) (NF := 12) rfl z1 rfl (Nat.le_of_ble_eq_true rfl) (Nat.le_refl 0) (Nat.le_refl 0) rfl (CI.on V (fun x21 h20 V => ?_))
      exact s_iret dX8_kind_109 rfl ⟨_, rfl, rfl, V⟩
    have c5 := c
    by_cases c : a2 = 6
    · have V := V25 c
      refine s_tableIn (v := 6) (tgt := 110) dX8_kind_14 c (by decide) (by decide) (by decide) rfl rfl ?_
      refine s_aload_n (pc' := 111) (x := 1) dX8_kind_110 rfl rfl ?_
      refine s_get (pc' := 114) (v := vR (h 1 2)) (kc := 8) (i := 2) dX8_kind_111 clX8 (by decide) fl_8_2 (fa_t1 sA) (fun _ => rfl) rfl ?_
      refine s_iload_n (pc' := 115) (x := a1) dX8_kind_114 rfl rfl ?_
      refine s_callV (pc' := 118) (av := [vI a1]) (a := (h 1 2)) (sk := []) (kc := 5) dX8_kind_115 ml_8_162 okX5_heirsOf oiX5_heirsOf (by decide) (NF := 12) rfl z1 rfl (Nat.le_of_ble_eq_true rfl) (Nat.le_refl 0) (Nat.le_refl 0) rfl (CI.on V (fun x24 h23 V => ?_))
      exact s_iret dX8_kind_118 rfl ⟨_, rfl, rfl, V⟩
    have c6 := c
    have co : a2 < 0 ∨ 6 < a2 := by omega
    have V := V26 co
    refine s_tableOut (tgt := 119) dX8_kind_14 z4 co rfl ?_
    refine s_iconst (pc' := 120) dX8_kind_119 rfl ?_
    exact s_iret dX8_kind_120 rfl ⟨_, rfl, rfl, V⟩
  · have V := V28 c
    refine s_iconst (pc' := 12) dX8_kind_11 rfl ?_
    exact s_iret dX8_kind_12 rfl ⟨_, rfl, rfl, V⟩
theorem e_X8_slacken {w : WS} {h : AH} {Q : Int → AH → Prop} {a1 a2 : Int} (X : XI mX8_slacken 0 [some (vR 1), some (vI a1), some (vI a2)] [] w h Q) : CI mX8_slacken [vR 1, vI a1, vI a2] w h Q := CA.of (M := mX8_slacken) (by decide) rfl (Nat.le_of_ble_eq_true rfl) X
set_option maxRecDepth 20000 in
theorem r_X8_slacken_0 {w : WS} {h : AH} {Q : Int → AH → Prop} {a1 a2 : Int} (sA : shA w) (V : (wt w (h 1 2) = 15 ∧ inR a1 ∧ inR (h (h 1 2) 4) ∧ ((¬ (0 ≤ a1 ∧ a1 < h (h 1 2) 4) → Q 0 h) ∧ ((0 ≤ a1 ∧ a1 < h (h 1 2) 4) → (inR a2 ∧ ((a2 < (-1) → Q 0 h) ∧ (¬ a2 < (-1) → ((99 < a2 → Q 0 h) ∧ (¬ 99 < a2 → (shSetup w (h 1 2) ∧ (0 ≤ h (h 1 2) 4 ∧ h (h 1 2) 4 ≤ 8) ∧ (inR (if 0 ≤ a1 ∧ a1 < h (h 1 2) 4 then h ((h 1 2) + 3) a1 else -1) ∧ ((¬ a2 = (if 0 ≤ a1 ∧ a1 < h (h 1 2) 4 then h ((h 1 2) + 3) a1 else -1) → CV mX5_setSlack [vR (h 1 2), vI a1, vI a2] w h (fun h8 => CV mX8_takeClasses [vR 1] w h8 (fun h9 => Q 1 h9))) ∧ (a2 = (if 0 ≤ a1 ∧ a1 < h (h 1 2) 4 then h ((h 1 2) + 3) a1 else -1) → Q 0 h))))))))))))) : XI mX8_slacken 0 [some (vR 1), some (vI a1), some (vI a2)] [] w h Q := by
  refine s_aload_n (pc' := 1) (x := 1) dX8_slacken_0 rfl rfl ?_
  refine s_get (pc' := 4) (v := vR (h 1 2)) (kc := 8) (i := 2) dX8_slacken_1 clX8 (by decide) fl_8_2 (fa_t1 sA) (fun _ => rfl) rfl ?_
  refine s_iload_n (pc' := 5) (x := a1) dX8_slacken_4 rfl rfl ?_
  obtain ⟨z1, z2, z3, V⟩ := V
  refine s_callV (pc' := 8) (av := [vI a1]) (a := (h 1 2)) (sk := []) (kc := 5) dX8_slacken_5 ml_8_139 okX5_hasKind oiX5_hasKind (by decide) (NF := 12) rfl z1 rfl (Nat.le_of_ble_eq_true rfl) (Nat.le_refl 0) (Nat.le_refl 0) rfl (CI.eon (c_X5_hasKind z1 z2 z3) ?_)
  obtain ⟨V16, V17⟩ := V
  refine s_ifeq_b (pc' := 11) (tgt := 34) dX8_slacken_8 rfl rfl (fun c => ?_) (fun c => ?_)
  · have V := V16 c
    refine s_iconst (pc' := 35) dX8_slacken_34 rfl ?_
    exact s_zret dX8_slacken_35 rfl (by decide) ⟨_, rfl, rfl, V⟩
  · have V := V17 c
    refine s_iload_n (pc' := 12) (x := a2) dX8_slacken_11 rfl rfl ?_
    refine s_iconst (pc' := 13) dX8_slacken_12 rfl ?_
    obtain ⟨z4, V⟩ := V
    obtain ⟨V14, V15⟩ := V
    refine s_icmp_lt (pc' := 16) (tgt := 34) dX8_slacken_13 rfl rfl z4 (by decide) (fun c => ?_) (fun c => ?_)
    · have V := V14 c
      refine s_iconst (pc' := 35) dX8_slacken_34 rfl ?_
      exact s_zret dX8_slacken_35 rfl (by decide) ⟨_, rfl, rfl, V⟩
    · have V := V15 c
      refine s_iload_n (pc' := 17) (x := a2) dX8_slacken_16 rfl rfl ?_
      refine s_bipush (pc' := 19) dX8_slacken_17 (by decide) rfl ?_
      obtain ⟨V12, V13⟩ := V
      refine s_icmp_gt (pc' := 22) (tgt := 34) dX8_slacken_19 rfl rfl z4 (by decide) (fun c => ?_) (fun c => ?_)
      · have V := V12 c
        refine s_iconst (pc' := 35) dX8_slacken_34 rfl ?_
        exact s_zret dX8_slacken_35 rfl (by decide) ⟨_, rfl, rfl, V⟩
      · have V := V13 c
        refine s_iload_n (pc' := 23) (x := a2) dX8_slacken_22 rfl rfl ?_
        refine s_aload_n (pc' := 24) (x := 1) dX8_slacken_23 rfl rfl ?_
        refine s_get (pc' := 27) (v := vR (h 1 2)) (kc := 8) (i := 2) dX8_slacken_24 clX8 (by decide) fl_8_2 (fa_t1 sA) (fun _ => rfl) rfl ?_
        refine s_iload_n (pc' := 28) (x := a1) dX8_slacken_27 rfl rfl ?_
        obtain ⟨z5, z6, V⟩ := V
        refine s_callV (pc' := 31) (av := [vI a1]) (a := (h 1 2)) (sk := [vI a2]) (kc := 5) dX8_slacken_28 ml_8_153 okX5_ownSlack oiX5_ownSlack (by decide) (NF := 12) rfl z1 rfl (Nat.le_of_ble_eq_true rfl) (Nat.le_refl 0) (Nat.le_refl 0) rfl (CI.eon (c_X5_ownSlack z5 z2 z6) ?_)
        obtain ⟨z7, V⟩ := V
        obtain ⟨V10, V11⟩ := V
        refine s_icmp_ne (pc' := 34) (tgt := 36) dX8_slacken_31 rfl rfl z4 z7 (fun c => ?_) (fun c => ?_)
        · have V := V10 c
          refine s_aload_n (pc' := 37) (x := 1) dX8_slacken_36 rfl rfl ?_
          refine s_get (pc' := 40) (v := vR (h 1 2)) (kc := 8) (i := 2) dX8_slacken_37 clX8 (by decide) fl_8_2 (fa_t1 sA) (fun _ => rfl) rfl ?_
          refine s_iload_n (pc' := 41) (x := a1) dX8_slacken_40 rfl rfl ?_
          refine s_iload_n (pc' := 42) (x := a2) dX8_slacken_41 rfl rfl ?_
          refine s_callV (pc' := 45) (av := [vI a1, vI a2]) (a := (h 1 2)) (sk := []) (kc := 5) dX8_slacken_42 ml_8_165 okX5_setSlack oiX5_setSlack (by decide) (NF := 12) rfl z1 rfl (Nat.le_of_ble_eq_true rfl) (Nat.le_refl 0) (Nat.le_refl 0) rfl (CV.on V (fun h8 V => ?_))
          refine s_aload_n (pc' := 46) (x := 1) dX8_slacken_45 rfl rfl ?_
          refine s_callV (pc' := 49) (av := []) (a := 1) (sk := []) (kc := 8) dX8_slacken_46 ml_8_104 okX8_takeClasses oiX8_takeClasses (by decide) (NF := 14) rfl (fa_t1 sA) rfl (Nat.le_of_ble_eq_true rfl) (Nat.le_refl 0) (Nat.le_refl 0) rfl (CV.on V (fun h9 V => ?_))
          refine s_iconst (pc' := 50) dX8_slacken_49 rfl ?_
          exact s_zret dX8_slacken_50 rfl (by decide) ⟨_, rfl, rfl, V⟩
        · have V := V11 c
          refine s_iconst (pc' := 35) dX8_slacken_34 rfl ?_
          exact s_zret dX8_slacken_35 rfl (by decide) ⟨_, rfl, rfl, V⟩
theorem e_X8_call {w : WS} {h : AH} {Q : Int → AH → Prop} {a1 a2 : Int} (X : XI mX8_call 0 [some (vR 1), some (vI a1), some (vI a2)] [] w h Q) : CI mX8_call [vR 1, vI a1, vI a2] w h Q := CA.of (M := mX8_call) (by decide) rfl (Nat.le_of_ble_eq_true rfl) X
set_option maxRecDepth 20000 in
theorem r_X8_call_0 {w : WS} {h : AH} {Q : Int → AH → Prop} {a1 a2 : Int} (sA : shA w) (V : (inR a1 ∧ szC w h 21 ∧ (((0 ≤ a1 ∧ a1 < h 21 4) → (inR a2 ∧ ((a2 = 0 → Q (if 0 ≤ a1 ∧ a1 < h 21 4 then h (21 + 1) a1 else -1) h) ∧ (a2 = 1 → Q (if 0 ≤ a1 ∧ a1 < h 21 4 then h (21 + 2) a1 else -1) h) ∧ (a2 = 2 → Q (if 0 ≤ a1 ∧ a1 < h 21 4 then h (21 + 3) a1 else -1) h) ∧ (a2 = 3 → Q (if 0 ≤ a1 ∧ a1 < h 21 4 then h (21 + 4) a1 else -1) h) ∧ ((a2 < 0 ∨ 3 < a2) → Q (-1) h)))) ∧ (¬ (0 ≤ a1 ∧ a1 < h 21 4) → Q (-1) h)))) : XI mX8_call 0 [some (vR 1), some (vI a1), some (vI a2)] [] w h Q := by
  refine s_aload_n (pc' := 1) (x := 1) dX8_call_0 rfl rfl ?_
  refine s_getF (pc' := 4) (b := 21) (kc := 8) (i := 4) dX8_call_1 clX8 (by decide) fl_8_4 (fa_t1 sA) (fa_f8_4 sA) (fun _ => rfl) rfl ?_
  refine s_iload_n (pc' := 5) (x := a1) dX8_call_4 rfl rfl ?_
  obtain ⟨z1, z2, V⟩ := V
  refine s_callV (pc' := 8) (av := [vI a1]) (a := 21) (sk := []) (kc := 0) dX8_call_5 ml_8_169 okX0_has oiX0_has (by decide) (NF := 5) rfl (fa_calls21 sA).1 rfl (Nat.le_of_ble_eq_true rfl) (Nat.le_refl 0) (Nat.le_refl 0) rfl (CI.eon (c_X0_has (fa_calls21 sA) z1 z2) ?_)
  obtain ⟨V9, V10⟩ := V
  refine s_ifne_b (pc' := 11) (tgt := 13) dX8_call_8 rfl rfl (fun c => ?_) (fun c => ?_)
  · have V := V9 c
    refine s_iload_n (pc' := 14) (x := a2) dX8_call_13 rfl rfl ?_
    obtain ⟨z3, V⟩ := V
    obtain ⟨V4, V5, V6, V7, V8⟩ := V
    by_cases c : a2 = 0
    · have V := V4 c
      refine s_tableIn (v := 0) (tgt := 44) dX8_call_14 c (by decide) (by decide) (by decide) rfl rfl ?_
      refine s_aload_n (pc' := 45) (x := 1) dX8_call_44 rfl rfl ?_
      refine s_getF (pc' := 48) (b := 21) (kc := 8) (i := 4) dX8_call_45 clX8 (by decide) fl_8_4 (fa_t1 sA) (fa_f8_4 sA) (fun _ => rfl) rfl ?_
      refine s_iload_n (pc' := 49) (x := a1) dX8_call_48 rfl rfl ?_
      refine s_callV (pc' := 52) (av := [vI a1]) (a := 21) (sk := []) (kc := 0) dX8_call_49 ml_8_172 okX0_fromOf oiX0_fromOf (by decide) (NF := 5) rfl (fa_calls21 sA).1 rfl (Nat.le_of_ble_eq_true rfl) (Nat.le_refl 0) (Nat.le_refl 0) rfl (CI.eon (c_X0_fromOf (fa_calls21 sA) z1 z2) ?_)
      exact s_iret dX8_call_52 rfl ⟨_, rfl, rfl, V⟩
    have c0 := c
    by_cases c : a2 = 1
    · have V := V5 c
      refine s_tableIn (v := 1) (tgt := 53) dX8_call_14 c (by decide) (by decide) (by decide) rfl rfl ?_
      refine s_aload_n (pc' := 54) (x := 1) dX8_call_53 rfl rfl ?_
      refine s_getF (pc' := 57) (b := 21) (kc := 8) (i := 4) dX8_call_54 clX8 (by decide) fl_8_4 (fa_t1 sA) (fa_f8_4 sA) (fun _ => rfl) rfl ?_
      refine s_iload_n (pc' := 58) (x := a1) dX8_call_57 rfl rfl ?_
      refine s_callV (pc' := 61) (av := [vI a1]) (a := 21) (sk := []) (kc := 0) dX8_call_58 ml_8_175 okX0_latestOf oiX0_latestOf (by decide) (NF := 5) rfl (fa_calls21 sA).1 rfl (Nat.le_of_ble_eq_true rfl) (Nat.le_refl 0) (Nat.le_refl 0) rfl (CI.eon (c_X0_latestOf (fa_calls21 sA) z1 z2) ?_)
      exact s_iret dX8_call_61 rfl ⟨_, rfl, rfl, V⟩
    have c1 := c
    by_cases c : a2 = 2
    · have V := V6 c
      refine s_tableIn (v := 2) (tgt := 62) dX8_call_14 c (by decide) (by decide) (by decide) rfl rfl ?_
      refine s_aload_n (pc' := 63) (x := 1) dX8_call_62 rfl rfl ?_
      refine s_getF (pc' := 66) (b := 21) (kc := 8) (i := 4) dX8_call_63 clX8 (by decide) fl_8_4 (fa_t1 sA) (fa_f8_4 sA) (fun _ => rfl) rfl ?_
      refine s_iload_n (pc' := 67) (x := a1) dX8_call_66 rfl rfl ?_
      refine s_callV (pc' := 70) (av := [vI a1]) (a := 21) (sk := []) (kc := 0) dX8_call_67 ml_8_178 okX0_weightOf oiX0_weightOf (by decide) (NF := 5) rfl (fa_calls21 sA).1 rfl (Nat.le_of_ble_eq_true rfl) (Nat.le_refl 0) (Nat.le_refl 0) rfl (CI.eon (c_X0_weightOf (fa_calls21 sA) z1 z2) ?_)
      exact s_iret dX8_call_70 rfl ⟨_, rfl, rfl, V⟩
    have c2 := c
    by_cases c : a2 = 3
    · have V := V7 c
      refine s_tableIn (v := 3) (tgt := 71) dX8_call_14 c (by decide) (by decide) (by decide) rfl rfl ?_
      refine s_aload_n (pc' := 72) (x := 1) dX8_call_71 rfl rfl ?_
      refine s_getF (pc' := 75) (b := 21) (kc := 8) (i := 4) dX8_call_72 clX8 (by decide) fl_8_4 (fa_t1 sA) (fa_f8_4 sA) (fun _ => rfl) rfl ?_
      refine s_iload_n (pc' := 76) (x := a1) dX8_call_75 rfl rfl ?_
      refine s_callV (pc' := 79) (av := [vI a1]) (a := 21) (sk := []) (kc := 0) dX8_call_76 ml_8_179 okX0_timerOf oiX0_timerOf (by decide) (NF := 5) rfl (fa_calls21 sA).1 rfl (Nat.le_of_ble_eq_true rfl) (Nat.le_refl 0) (Nat.le_refl 0) rfl (CI.eon (c_X0_timerOf (fa_calls21 sA) z1 z2) ?_)
      exact s_iret dX8_call_79 rfl ⟨_, rfl, rfl, V⟩
    have c3 := c
    have co : a2 < 0 ∨ 3 < a2 := by omega
    have V := V8 co
    refine s_tableOut (tgt := 80) dX8_call_14 z3 co rfl ?_
    refine s_iconst (pc' := 81) dX8_call_80 rfl ?_
    exact s_iret dX8_call_81 rfl ⟨_, rfl, rfl, V⟩
  · have V := V10 c
    refine s_iconst (pc' := 12) dX8_call_11 rfl ?_
    exact s_iret dX8_call_12 rfl ⟨_, rfl, rfl, V⟩
theorem e_X8_wakes {w : WS} {h : AH} {Q : Int → AH → Prop} {a1 : Int} (X : XI mX8_wakes 0 [some (vR 1), some (vI a1), none] [] w h Q) : CI mX8_wakes [vR 1, vI a1] w h Q := CA.of (M := mX8_wakes) (by decide) rfl (Nat.le_of_ble_eq_true rfl) X
set_option maxRecDepth 20000 in
theorem r_X8_wakes_0 {w : WS} {h : AH} {Q : Int → AH → Prop} {a1 : Int} (sA : shA w) (V : CR mX8_planOf [vR 1, vI a1] w h (fun x2 h1 => ((¬ x2 = 0 → (wt w x2 = 17 ∧ Q (h1 x2 1) h1)) ∧ (x2 = 0 → Q (-1) h1)))) : XI mX8_wakes 0 [some (vR 1), some (vI a1), none] [] w h Q := by
  refine s_aload_n (pc' := 1) (x := 1) dX8_wakes_0 rfl rfl ?_
  refine s_iload_n (pc' := 2) (x := a1) dX8_wakes_1 rfl rfl ?_
  refine s_callV (pc' := 5) (av := [vI a1]) (a := 1) (sk := []) (kc := 8) dX8_wakes_2 ml_8_182 okX8_planOf oiX8_planOf (by decide) (NF := 14) rfl (fa_t1 sA) rfl (Nat.le_of_ble_eq_true rfl) (Nat.le_refl 0) (Nat.le_refl 0) rfl (CR.on V (fun x2 h1 V => ?_))
  refine s_astore_n (pc' := 6) (ls' := [some (vR 1), some (vI a1), some (vR x2)]) dX8_wakes_5 (by decide) rfl rfl ?_
  refine s_aload_n (pc' := 7) (x := x2) dX8_wakes_6 rfl rfl ?_
  obtain ⟨V4, V5⟩ := V
  refine s_ifnonnull (pc' := 10) (tgt := 14) dX8_wakes_7 rfl rfl (fun c => ?_) (fun c => ?_)
  · have V := V4 c
    refine s_aload_n (pc' := 15) (x := x2) dX8_wakes_14 rfl rfl ?_
    obtain ⟨z3, V⟩ := V
    refine s_callV (pc' := 18) (av := []) (a := x2) (sk := []) (kc := 7) dX8_wakes_15 ml_8_186 okX7_size oiX7_size (by decide) (NF := 2) rfl z3 rfl (Nat.le_of_ble_eq_true rfl) (Nat.le_refl 0) (Nat.le_refl 0) rfl (CI.eon (c_X7_size z3) ?_)
    exact s_iret dX8_wakes_18 rfl ⟨_, rfl, rfl, V⟩
  · have V := V5 c
    refine s_iconst (pc' := 11) dX8_wakes_10 rfl ?_
    refine s_goto (tgt := 18) dX8_wakes_11 rfl ?_
    exact s_iret dX8_wakes_18 rfl ⟨_, rfl, rfl, V⟩
theorem e_X8_wake {w : WS} {h : AH} {Q : Int → AH → Prop} {a1 a2 : Int} (X : XI mX8_wake 0 [some (vR 1), some (vI a1), some (vI a2), none] [] w h Q) : CI mX8_wake [vR 1, vI a1, vI a2] w h Q := CA.of (M := mX8_wake) (by decide) rfl (Nat.le_of_ble_eq_true rfl) X
set_option maxRecDepth 20000 in
theorem r_X8_wake_0 {w : WS} {h : AH} {Q : Int → AH → Prop} {a1 a2 : Int} (sA : shA w) (V : CR mX8_planOf [vR 1, vI a1] w h (fun x2 h1 => ((¬ x2 = 0 → (wt w x2 = 17 ∧ shWakes w x2 ∧ inR a2 ∧ szW w h1 x2 ∧ Q (if 0 ≤ a2 ∧ a2 < h1 x2 1 then h1 (x2 + 1) a2 else -1) h1)) ∧ (x2 = 0 → Q (-1) h1)))) : XI mX8_wake 0 [some (vR 1), some (vI a1), some (vI a2), none] [] w h Q := by
  refine s_aload_n (pc' := 1) (x := 1) dX8_wake_0 rfl rfl ?_
  refine s_iload_n (pc' := 2) (x := a1) dX8_wake_1 rfl rfl ?_
  refine s_callV (pc' := 5) (av := [vI a1]) (a := 1) (sk := []) (kc := 8) dX8_wake_2 ml_8_182 okX8_planOf oiX8_planOf (by decide) (NF := 14) rfl (fa_t1 sA) rfl (Nat.le_of_ble_eq_true rfl) (Nat.le_refl 0) (Nat.le_refl 0) rfl (CR.on V (fun x2 h1 V => ?_))
  refine s_astore_n (pc' := 6) (ls' := [some (vR 1), some (vI a1), some (vI a2), some (vR x2)]) dX8_wake_5 (by decide) rfl rfl ?_
  refine s_aload_n (pc' := 7) (x := x2) dX8_wake_6 rfl rfl ?_
  obtain ⟨V7, V8⟩ := V
  refine s_ifnonnull (pc' := 10) (tgt := 14) dX8_wake_7 rfl rfl (fun c => ?_) (fun c => ?_)
  · have V := V7 c
    refine s_aload_n (pc' := 15) (x := x2) dX8_wake_14 rfl rfl ?_
    refine s_iload_n (pc' := 16) (x := a2) dX8_wake_15 rfl rfl ?_
    obtain ⟨z3, z4, z5, z6, V⟩ := V
    refine s_callV (pc' := 19) (av := [vI a2]) (a := x2) (sk := []) (kc := 7) dX8_wake_16 ml_8_187 okX7_tickAt oiX7_tickAt (by decide) (NF := 2) rfl z3 rfl (Nat.le_of_ble_eq_true rfl) (Nat.le_refl 0) (Nat.le_refl 0) rfl (CI.eon (c_X7_tickAt z4 z5 z6) ?_)
    exact s_iret dX8_wake_19 rfl ⟨_, rfl, rfl, V⟩
  · have V := V8 c
    refine s_iconst (pc' := 11) dX8_wake_10 rfl ?_
    refine s_goto (tgt := 19) dX8_wake_11 rfl ?_
    exact s_iret dX8_wake_19 rfl ⟨_, rfl, rfl, V⟩
theorem e_X8_price {w : WS} {h : AH} {Q : Int → AH → Prop} {a1 a2 : Int} (X : XI mX8_price 0 [some (vR 1), some (vI a1), some (vI a2), none] [] w h Q) : CI mX8_price [vR 1, vI a1, vI a2] w h Q := CA.of (M := mX8_price) (by decide) rfl (Nat.le_of_ble_eq_true rfl) X
set_option maxRecDepth 20000 in
theorem r_X8_price_0 {w : WS} {h : AH} {Q : Int → AH → Prop} {a1 a2 : Int} (sA : shA w) (V : CR mX8_planOf [vR 1, vI a1] w h (fun x2 h1 => ((¬ x2 = 0 → (inR a2 ∧ ((a2 = 0 → (wt w (h1 1 2) = 15 ∧ (wt w x2 = 17 ∧ CI mX7_costFor [vR x2, vR 21, vI (h1 (h1 1 2) 10)] w h1 (fun x7 h6 => Q x7 h6)))) ∧ (a2 = 1 → (wt w x2 = 17 ∧ CI mX7_waitsOf [vR x2, vR 21] w h1 (fun x11 h10 => Q x11 h10))) ∧ (a2 = 2 → (wt w (h1 1 2) = 15 ∧ (wt w x2 = 17 ∧ CI mX7_energy [vR x2, vI (h1 (h1 1 2) 10), vI (h1 (h1 1 2) 11)] w h1 (fun x16 h15 => Q x16 h15)))) ∧ (a2 = 3 → (wt w (h1 1 2) = 15 ∧ (wt w x2 = 17 ∧ CI mX7_liveEnergy [vR x2, vI (h1 (h1 1 2) 10), vI (h1 (h1 1 2) 11), vI (h1 (h1 1 2) 9)] w h1 (fun x21 h20 => Q x21 h20)))) ∧ (a2 = 4 → (wt w x2 = 17 ∧ CI mX7_mostAnswered [vR x2, vR 21] w h1 (fun x25 h24 => Q x25 h24))) ∧ (a2 = 5 → (wt w x2 = 17 ∧ CI mX7_longestWait [vR x2, vR 21] w h1 (fun x29 h28 => Q x29 h28))) ∧ ((a2 < 0 ∨ 5 < a2) → Q (-1) h1)))) ∧ (x2 = 0 → Q (-1) h1)))) : XI mX8_price 0 [some (vR 1), some (vI a1), some (vI a2), none] [] w h Q := by
  refine s_aload_n (pc' := 1) (x := 1) dX8_price_0 rfl rfl ?_
  refine s_iload_n (pc' := 2) (x := a1) dX8_price_1 rfl rfl ?_
  refine s_callV (pc' := 5) (av := [vI a1]) (a := 1) (sk := []) (kc := 8) dX8_price_2 ml_8_182 okX8_planOf oiX8_planOf (by decide) (NF := 14) rfl (fa_t1 sA) rfl (Nat.le_of_ble_eq_true rfl) (Nat.le_refl 0) (Nat.le_refl 0) rfl (CR.on V (fun x2 h1 V => ?_))
  refine s_astore_n (pc' := 6) (ls' := [some (vR 1), some (vI a1), some (vI a2), some (vR x2)]) dX8_price_5 (by decide) rfl rfl ?_
  refine s_aload_n (pc' := 7) (x := x2) dX8_price_6 rfl rfl ?_
  obtain ⟨V32, V33⟩ := V
  refine s_ifnonnull (pc' := 10) (tgt := 12) dX8_price_7 rfl rfl (fun c => ?_) (fun c => ?_)
  · have V := V32 c
    refine s_iload_n (pc' := 13) (x := a2) dX8_price_12 rfl rfl ?_
    obtain ⟨z3, V⟩ := V
    obtain ⟨V8, V12, V17, V22, V26, V30, V31⟩ := V
    by_cases c : a2 = 0
    · have V := V8 c
      refine s_tableIn (v := 0) (tgt := 52) dX8_price_13 c (by decide) (by decide) (by decide) rfl rfl ?_
      refine s_aload_n (pc' := 53) (x := x2) dX8_price_52 rfl rfl ?_
      refine s_aload_n (pc' := 54) (x := 1) dX8_price_53 rfl rfl ?_
      refine s_getF (pc' := 57) (b := 21) (kc := 8) (i := 4) dX8_price_54 clX8 (by decide) fl_8_4 (fa_t1 sA) (fa_f8_4 sA) (fun _ => rfl) rfl ?_
      refine s_aload_n (pc' := 58) (x := 1) dX8_price_57 rfl rfl ?_
      refine s_get (pc' := 61) (v := vR (h1 1 2)) (kc := 8) (i := 2) dX8_price_58 clX8 (by decide) fl_8_2 (fa_t1 sA) (fun _ => rfl) rfl ?_
      obtain ⟨z4, V⟩ := V
      refine s_callV (pc' := 64) (av := []) (a := (h1 1 2)) (sk := [vR 21, vR x2]) (kc := 5) dX8_price_61 ml_8_127 okX5_wakePrice oiX5_wakePrice (by decide) (NF := 12) rfl z4 rfl (Nat.le_of_ble_eq_true rfl) (Nat.le_refl 0) (Nat.le_refl 0) rfl (CI.eon (c_X5_wakePrice z4) ?_)
      obtain ⟨z5, V⟩ := V
      refine s_callV (pc' := 67) (av := [vR 21, vI (h1 (h1 1 2) 10)]) (a := x2) (sk := []) (kc := 7) dX8_price_64 ml_8_190 okX7_costFor oiX7_costFor (by decide) (NF := 2) rfl z5 rfl (Nat.le_of_ble_eq_true rfl) (Nat.le_refl 0) (Nat.le_refl 0) rfl (CI.on V (fun x7 h6 V => ?_))
      exact s_iret dX8_price_67 rfl ⟨_, rfl, rfl, V⟩
    have c0 := c
    by_cases c : a2 = 1
    · have V := V12 c
      refine s_tableIn (v := 1) (tgt := 68) dX8_price_13 c (by decide) (by decide) (by decide) rfl rfl ?_
      refine s_aload_n (pc' := 69) (x := x2) dX8_price_68 rfl rfl ?_
      refine s_aload_n (pc' := 70) (x := 1) dX8_price_69 rfl rfl ?_
      refine s_getF (pc' := 73) (b := 21) (kc := 8) (i := 4) dX8_price_70 clX8 (by decide) fl_8_4 (fa_t1 sA) (fa_f8_4 sA) (fun _ => rfl) rfl ?_
      obtain ⟨z9, V⟩ := V
      refine s_callV (pc' := 76) (av := [vR 21]) (a := x2) (sk := []) (kc := 7) dX8_price_73 ml_8_194 okX7_waitsOf oiX7_waitsOf (by decide) (NF := 2) rfl z9 rfl (Nat.le_of_ble_eq_true rfl) (Nat.le_refl 0) (Nat.le_refl 0) rfl (CI.on V (fun x11 h10 V => ?_))
      exact s_iret dX8_price_76 rfl ⟨_, rfl, rfl, V⟩
    have c1 := c
    by_cases c : a2 = 2
    · have V := V17 c
      refine s_tableIn (v := 2) (tgt := 77) dX8_price_13 c (by decide) (by decide) (by decide) rfl rfl ?_
      refine s_aload_n (pc' := 78) (x := x2) dX8_price_77 rfl rfl ?_
      refine s_aload_n (pc' := 79) (x := 1) dX8_price_78 rfl rfl ?_
      refine s_get (pc' := 82) (v := vR (h1 1 2)) (kc := 8) (i := 2) dX8_price_79 clX8 (by decide) fl_8_2 (fa_t1 sA) (fun _ => rfl) rfl ?_
      obtain ⟨z13, V⟩ := V
      refine s_callV (pc' := 85) (av := []) (a := (h1 1 2)) (sk := [vR x2]) (kc := 5) dX8_price_82 ml_8_127 okX5_wakePrice oiX5_wakePrice (by decide) (NF := 12) rfl z13 rfl (Nat.le_of_ble_eq_true rfl) (Nat.le_refl 0) (Nat.le_refl 0) rfl (CI.eon (c_X5_wakePrice z13) ?_)
      refine s_aload_n (pc' := 86) (x := 1) dX8_price_85 rfl rfl ?_
      refine s_get (pc' := 89) (v := vR (h1 1 2)) (kc := 8) (i := 2) dX8_price_86 clX8 (by decide) fl_8_2 (fa_t1 sA) (fun _ => rfl) rfl ?_
      refine s_callV (pc' := 92) (av := []) (a := (h1 1 2)) (sk := [vI (h1 (h1 1 2) 10), vR x2]) (kc := 5) dX8_price_89 ml_8_130 okX5_stay oiX5_stay (by decide) (NF := 12) rfl z13 rfl (Nat.le_of_ble_eq_true rfl) (Nat.le_refl 0) (Nat.le_refl 0) rfl (CI.eon (c_X5_stay z13) ?_)
      obtain ⟨z14, V⟩ := V
      refine s_callV (pc' := 95) (av := [vI (h1 (h1 1 2) 10), vI (h1 (h1 1 2) 11)]) (a := x2) (sk := []) (kc := 7) dX8_price_92 ml_8_198 okX7_energy oiX7_energy (by decide) (NF := 2) rfl z14 rfl (Nat.le_of_ble_eq_true rfl) (Nat.le_refl 0) (Nat.le_refl 0) rfl (CI.on V (fun x16 h15 V => ?_))
      exact s_iret dX8_price_95 rfl ⟨_, rfl, rfl, V⟩
    have c2 := c
    by_cases c : a2 = 3
    · have V := V22 c
      refine s_tableIn (v := 3) (tgt := 96) dX8_price_13 c (by decide) (by decide) (by decide) rfl rfl ?_
      refine s_aload_n (pc' := 97) (x := x2) dX8_price_96 rfl rfl ?_
      refine s_aload_n (pc' := 98) (x := 1) dX8_price_97 rfl rfl ?_
      refine s_get (pc' := 101) (v := vR (h1 1 2)) (kc := 8) (i := 2) dX8_price_98 clX8 (by decide) fl_8_2 (fa_t1 sA) (fun _ => rfl) rfl ?_
      obtain ⟨z18, V⟩ := V
      refine s_callV (pc' := 104) (av := []) (a := (h1 1 2)) (sk := [vR x2]) (kc := 5) dX8_price_101 ml_8_127 okX5_wakePrice oiX5_wakePrice (by decide) (NF := 12) rfl z18 rfl (Nat.le_of_ble_eq_true rfl) (Nat.le_refl 0) (Nat.le_refl 0) rfl (CI.eon (c_X5_wakePrice z18) ?_)
      refine s_aload_n (pc' := 105) (x := 1) dX8_price_104 rfl rfl ?_
      refine s_get (pc' := 108) (v := vR (h1 1 2)) (kc := 8) (i := 2) dX8_price_105 clX8 (by decide) fl_8_2 (fa_t1 sA) (fun _ => rfl) rfl ?_
      refine s_callV (pc' := 111) (av := []) (a := (h1 1 2)) (sk := [vI (h1 (h1 1 2) 10), vR x2]) (kc := 5) dX8_price_108 ml_8_130 okX5_stay oiX5_stay (by decide) (NF := 12) rfl z18 rfl (Nat.le_of_ble_eq_true rfl) (Nat.le_refl 0) (Nat.le_refl 0) rfl (CI.eon (c_X5_stay z18) ?_)
      refine s_aload_n (pc' := 112) (x := 1) dX8_price_111 rfl rfl ?_
      refine s_get (pc' := 115) (v := vR (h1 1 2)) (kc := 8) (i := 2) dX8_price_112 clX8 (by decide) fl_8_2 (fa_t1 sA) (fun _ => rfl) rfl ?_
      refine s_callV (pc' := 118) (av := []) (a := (h1 1 2)) (sk := [vI (h1 (h1 1 2) 11), vI (h1 (h1 1 2) 10), vR x2]) (kc := 5) dX8_price_115 ml_8_124 okX5_length oiX5_length (by decide) (NF := 12) rfl z18 rfl (Nat.le_of_ble_eq_true rfl) (Nat.le_refl 0) (Nat.le_refl 0) rfl (CI.eon (c_X5_length z18) ?_)
      obtain ⟨z19, V⟩ := V
      refine s_callV (pc' := 121) (av := [vI (h1 (h1 1 2) 10), vI (h1 (h1 1 2) 11), vI (h1 (h1 1 2) 9)]) (a := x2) (sk := []) (kc := 7) dX8_price_118 ml_8_202 okX7_liveEnergy oiX7_liveEnergy (by decide) (NF := 2) rfl z19 rfl (Nat.le_of_ble_eq_true rfl) (Nat.le_refl 0) (Nat.le_refl 0) rfl (CI.on V (fun x21 h20 V => ?_))
      exact s_iret dX8_price_121 rfl ⟨_, rfl, rfl, V⟩
    have c3 := c
    by_cases c : a2 = 4
    · have V := V26 c
      refine s_tableIn (v := 4) (tgt := 122) dX8_price_13 c (by decide) (by decide) (by decide) rfl rfl ?_
      refine s_aload_n (pc' := 123) (x := x2) dX8_price_122 rfl rfl ?_
      refine s_aload_n (pc' := 124) (x := 1) dX8_price_123 rfl rfl ?_
      refine s_getF (pc' := 127) (b := 21) (kc := 8) (i := 4) dX8_price_124 clX8 (by decide) fl_8_4 (fa_t1 sA) (fa_f8_4 sA) (fun _ => rfl) rfl ?_
      obtain ⟨z23, V⟩ := V
      refine s_callV (pc' := 130) (av := [vR 21]) (a := x2) (sk := []) (kc := 7) dX8_price_127 ml_8_206 okX7_mostAnswered oiX7_mostAnswered (by decide) (NF := 2) rfl z23 rfl (Nat.le_of_ble_eq_true rfl) (Nat.le_refl 0) (Nat.le_refl 0) rfl (CI.on V (fun x25 h24 V => ?_))
      exact s_iret dX8_price_130 rfl ⟨_, rfl, rfl, V⟩
    have c4 := c
    by_cases c : a2 = 5
    · have V := V30 c
      refine s_tableIn (v := 5) (tgt := 131) dX8_price_13 c (by decide) (by decide) (by decide) rfl rfl ?_
      refine s_aload_n (pc' := 132) (x := x2) dX8_price_131 rfl rfl ?_
      refine s_aload_n (pc' := 133) (x := 1) dX8_price_132 rfl rfl ?_
      refine s_getF (pc' := 136) (b := 21) (kc := 8) (i := 4) dX8_price_133 clX8 (by decide) fl_8_4 (fa_t1 sA) (fa_f8_4 sA) (fun _ => rfl) rfl ?_
      obtain ⟨z27, V⟩ := V
      refine s_callV (pc' := 139) (av := [vR 21]) (a := x2) (sk := []) (kc := 7) dX8_price_136 ml_8_209 okX7_longestWait oiX7_longestWait (by decide) (NF := 2) rfl z27 rfl (Nat.le_of_ble_eq_true rfl) (Nat.le_refl 0) (Nat.le_refl 0) rfl (CI.on V (fun x29 h28 V => ?_))
      exact s_iret dX8_price_139 rfl ⟨_, rfl, rfl, V⟩
    have c5 := c
    have co : a2 < 0 ∨ 5 < a2 := by omega
    have V := V31 co
    refine s_tableOut (tgt := 140) dX8_price_13 z3 co rfl ?_
    refine s_iconst (pc' := 141) dX8_price_140 rfl ?_
    exact s_iret dX8_price_141 rfl ⟨_, rfl, rfl, V⟩
  · have V := V33 c
    refine s_iconst (pc' := 11) dX8_price_10 rfl ?_
    exact s_iret dX8_price_11 rfl ⟨_, rfl, rfl, V⟩
theorem e_X8_proof {w : WS} {h : AH} {Q : Int → AH → Prop} {a1 : Int} (X : XI mX8_proof 0 [some (vR 1), some (vI a1), none] [] w h Q) : CI mX8_proof [vR 1, vI a1] w h Q := CA.of (M := mX8_proof) (by decide) rfl (Nat.le_of_ble_eq_true rfl) X
set_option maxRecDepth 20000 in
theorem r_X8_proof_0 {w : WS} {h : AH} {Q : Int → AH → Prop} {a1 : Int} (sA : shA w) (V : CR mX8_planOf [vR 1, vI 0] w h (fun x2 h1 => ((x2 = 0 → Q (-1) h1) ∧ (¬ x2 = 0 → (wt w x2 = 17 ∧ shWakes w x2 ∧ inR a1 ∧ szW w h1 x2 ∧ (((0 ≤ a1 ∧ a1 < h1 x2 1) → (inR (a1 - 1) ∧ CI mX0_firstDueAt [vR 21, vI (if 0 ≤ a1 ∧ a1 < h1 x2 1 then h1 (x2 + 1) a1 else -1), vI (if 0 ≤ (a1 - 1) ∧ (a1 - 1) < h1 x2 1 then h1 (x2 + 1) (a1 - 1) else -1)] w h1 (fun x9 h8 => Q x9 h8))) ∧ (¬ (0 ≤ a1 ∧ a1 < h1 x2 1) → Q (-1) h1))))))) : XI mX8_proof 0 [some (vR 1), some (vI a1), none] [] w h Q := by
  refine s_aload_n (pc' := 1) (x := 1) dX8_proof_0 rfl rfl ?_
  refine s_iconst (pc' := 2) dX8_proof_1 rfl ?_
  refine s_callV (pc' := 5) (av := [vI 0]) (a := 1) (sk := []) (kc := 8) dX8_proof_2 ml_8_182 okX8_planOf oiX8_planOf (by decide) (NF := 14) rfl (fa_t1 sA) rfl (Nat.le_of_ble_eq_true rfl) (Nat.le_refl 0) (Nat.le_refl 0) rfl (CR.on V (fun x2 h1 V => ?_))
  refine s_astore_n (pc' := 6) (ls' := [some (vR 1), some (vI a1), some (vR x2)]) dX8_proof_5 (by decide) rfl rfl ?_
  refine s_aload_n (pc' := 7) (x := x2) dX8_proof_6 rfl rfl ?_
  obtain ⟨V12, V13⟩ := V
  refine s_ifnull (pc' := 10) (tgt := 18) dX8_proof_7 rfl rfl (fun c => ?_) (fun c => ?_)
  · have V := V12 c
    refine s_iconst (pc' := 19) dX8_proof_18 rfl ?_
    exact s_iret dX8_proof_19 rfl ⟨_, rfl, rfl, V⟩
  · have V := V13 c
    refine s_aload_n (pc' := 11) (x := x2) dX8_proof_10 rfl rfl ?_
    refine s_iload_n (pc' := 12) (x := a1) dX8_proof_11 rfl rfl ?_
    obtain ⟨z3, z4, z5, z6, V⟩ := V
    refine s_callV (pc' := 15) (av := [vI a1]) (a := x2) (sk := []) (kc := 7) dX8_proof_12 ml_8_212 okX7_has oiX7_has (by decide) (NF := 2) rfl z3 rfl (Nat.le_of_ble_eq_true rfl) (Nat.le_refl 0) (Nat.le_refl 0) rfl (CI.eon (c_X7_has z4 z5 z6) ?_)
    obtain ⟨V10, V11⟩ := V
    refine s_ifne_b (pc' := 18) (tgt := 20) dX8_proof_15 rfl rfl (fun c => ?_) (fun c => ?_)
    · have V := V10 c
      refine s_aload_n (pc' := 21) (x := 1) dX8_proof_20 rfl rfl ?_
      refine s_getF (pc' := 24) (b := 21) (kc := 8) (i := 4) dX8_proof_21 clX8 (by decide) fl_8_4 (fa_t1 sA) (fa_f8_4 sA) (fun _ => rfl) rfl ?_
      refine s_aload_n (pc' := 25) (x := x2) dX8_proof_24 rfl rfl ?_
      refine s_iload_n (pc' := 26) (x := a1) dX8_proof_25 rfl rfl ?_
      refine s_callV (pc' := 29) (av := [vI a1]) (a := x2) (sk := [vR 21]) (kc := 7) dX8_proof_26 ml_8_187 okX7_tickAt oiX7_tickAt (by decide) (NF := 2) rfl z3 rfl (Nat.le_of_ble_eq_true rfl) (Nat.le_refl 0) (Nat.le_refl 0) rfl (CI.eon (c_X7_tickAt z4 z5 z6) ?_)
      refine s_aload_n (pc' := 30) (x := x2) dX8_proof_29 rfl rfl ?_
      refine s_iload_n (pc' := 31) (x := a1) dX8_proof_30 rfl rfl ?_
      refine s_iconst (pc' := 32) dX8_proof_31 rfl ?_
      refine s_isub (pc' := 33) dX8_proof_32 rfl ?_
      obtain ⟨z7, V⟩ := V
      refine s_callV (pc' := 36) (av := [vI (a1 - 1)]) (a := x2) (sk := [vI (if 0 ≤ a1 ∧ a1 < h1 x2 1 then h1 (x2 + 1) a1 else -1), vR 21]) (kc := 7) dX8_proof_33 ml_8_187 okX7_tickAt oiX7_tickAt (by decide) (NF := 2) rfl z3 rfl (Nat.le_of_ble_eq_true rfl) (Nat.le_refl 0) (Nat.le_refl 0) rfl (CI.eon (c_X7_tickAt z4 z7 z6) ?_)
      refine s_callV (pc' := 39) (av := [vI (if 0 ≤ a1 ∧ a1 < h1 x2 1 then h1 (x2 + 1) a1 else -1), vI (if 0 ≤ (a1 - 1) ∧ (a1 - 1) < h1 x2 1 then h1 (x2 + 1) (a1 - 1) else -1)]) (a := 21) (sk := []) (kc := 0) dX8_proof_36 ml_8_213 okX0_firstDueAt oiX0_firstDueAt (by decide) (NF := 5) rfl (fa_calls21 sA).1 rfl (Nat.le_of_ble_eq_true rfl) (Nat.le_refl 0) (Nat.le_refl 0) rfl (CI.on V (fun x9 h8 V => ?_))
      exact s_iret dX8_proof_39 rfl ⟨_, rfl, rfl, V⟩
    · have V := V11 c
      refine s_iconst (pc' := 19) dX8_proof_18 rfl ?_
      exact s_iret dX8_proof_19 rfl ⟨_, rfl, rfl, V⟩
theorem e_X8_answer {w : WS} {h : AH} {Q : Int → AH → Prop} {a1 a2 : Int} (X : XI mX8_answer 0 [some (vR 1), some (vI a1), some (vI a2), none] [] w h Q) : CI mX8_answer [vR 1, vI a1, vI a2] w h Q := CA.of (M := mX8_answer) (by decide) rfl (Nat.le_of_ble_eq_true rfl) X
set_option maxRecDepth 20000 in
theorem r_X8_answer_0 {w : WS} {h : AH} {Q : Int → AH → Prop} {a1 a2 : Int} (sA : shA w) (V : CR mX8_planOf [vR 1, vI a1] w h (fun x2 h1 => ((x2 = 0 → Q (-1) h1) ∧ (¬ x2 = 0 → (inR a2 ∧ szC w h1 21 ∧ (((0 ≤ a2 ∧ a2 < h1 21 4) → (wt w x2 = 17 ∧ CI mX7_firstFrom [vR x2, vI (if 0 ≤ a2 ∧ a2 < h1 21 4 then h1 (21 + 1) a2 else -1)] w h1 (fun x7 h6 => Q x7 h6))) ∧ (¬ (0 ≤ a2 ∧ a2 < h1 21 4) → Q (-1) h1))))))) : XI mX8_answer 0 [some (vR 1), some (vI a1), some (vI a2), none] [] w h Q := by
  refine s_aload_n (pc' := 1) (x := 1) dX8_answer_0 rfl rfl ?_
  refine s_iload_n (pc' := 2) (x := a1) dX8_answer_1 rfl rfl ?_
  refine s_callV (pc' := 5) (av := [vI a1]) (a := 1) (sk := []) (kc := 8) dX8_answer_2 ml_8_182 okX8_planOf oiX8_planOf (by decide) (NF := 14) rfl (fa_t1 sA) rfl (Nat.le_of_ble_eq_true rfl) (Nat.le_refl 0) (Nat.le_refl 0) rfl (CR.on V (fun x2 h1 V => ?_))
  refine s_astore_n (pc' := 6) (ls' := [some (vR 1), some (vI a1), some (vI a2), some (vR x2)]) dX8_answer_5 (by decide) rfl rfl ?_
  refine s_aload_n (pc' := 7) (x := x2) dX8_answer_6 rfl rfl ?_
  obtain ⟨V10, V11⟩ := V
  refine s_ifnull (pc' := 10) (tgt := 21) dX8_answer_7 rfl rfl (fun c => ?_) (fun c => ?_)
  · have V := V10 c
    refine s_iconst (pc' := 22) dX8_answer_21 rfl ?_
    exact s_iret dX8_answer_22 rfl ⟨_, rfl, rfl, V⟩
  · have V := V11 c
    refine s_aload_n (pc' := 11) (x := 1) dX8_answer_10 rfl rfl ?_
    refine s_getF (pc' := 14) (b := 21) (kc := 8) (i := 4) dX8_answer_11 clX8 (by decide) fl_8_4 (fa_t1 sA) (fa_f8_4 sA) (fun _ => rfl) rfl ?_
    refine s_iload_n (pc' := 15) (x := a2) dX8_answer_14 rfl rfl ?_
    obtain ⟨z3, z4, V⟩ := V
    refine s_callV (pc' := 18) (av := [vI a2]) (a := 21) (sk := []) (kc := 0) dX8_answer_15 ml_8_169 okX0_has oiX0_has (by decide) (NF := 5) rfl (fa_calls21 sA).1 rfl (Nat.le_of_ble_eq_true rfl) (Nat.le_refl 0) (Nat.le_refl 0) rfl (CI.eon (c_X0_has (fa_calls21 sA) z3 z4) ?_)
    obtain ⟨V8, V9⟩ := V
    refine s_ifne_b (pc' := 21) (tgt := 23) dX8_answer_18 rfl rfl (fun c => ?_) (fun c => ?_)
    · have V := V8 c
      refine s_aload_n (pc' := 24) (x := x2) dX8_answer_23 rfl rfl ?_
      refine s_aload_n (pc' := 25) (x := 1) dX8_answer_24 rfl rfl ?_
      refine s_getF (pc' := 28) (b := 21) (kc := 8) (i := 4) dX8_answer_25 clX8 (by decide) fl_8_4 (fa_t1 sA) (fa_f8_4 sA) (fun _ => rfl) rfl ?_
      refine s_iload_n (pc' := 29) (x := a2) dX8_answer_28 rfl rfl ?_
      refine s_callV (pc' := 32) (av := [vI a2]) (a := 21) (sk := [vR x2]) (kc := 0) dX8_answer_29 ml_8_172 okX0_fromOf oiX0_fromOf (by decide) (NF := 5) rfl (fa_calls21 sA).1 rfl (Nat.le_of_ble_eq_true rfl) (Nat.le_refl 0) (Nat.le_refl 0) rfl (CI.eon (c_X0_fromOf (fa_calls21 sA) z3 z4) ?_)
      obtain ⟨z5, V⟩ := V
      refine s_callV (pc' := 35) (av := [vI (if 0 ≤ a2 ∧ a2 < h1 21 4 then h1 (21 + 1) a2 else -1)]) (a := x2) (sk := []) (kc := 7) dX8_answer_32 ml_8_216 okX7_firstFrom oiX7_firstFrom (by decide) (NF := 2) rfl z5 rfl (Nat.le_of_ble_eq_true rfl) (Nat.le_refl 0) (Nat.le_refl 0) rfl (CI.on V (fun x7 h6 V => ?_))
      exact s_iret dX8_answer_35 rfl ⟨_, rfl, rfl, V⟩
    · have V := V9 c
      refine s_iconst (pc' := 22) dX8_answer_21 rfl ?_
      exact s_iret dX8_answer_22 rfl ⟨_, rfl, rfl, V⟩
theorem e_X8_rule {w : WS} {h : AH} {Q : Int → AH → Prop} {a1 : Int} (X : XI mX8_rule 0 [some (vR 1), some (vI a1)] [] w h Q) : CI mX8_rule [vR 1, vI a1] w h Q := CA.of (M := mX8_rule) (by decide) rfl (Nat.le_of_ble_eq_true rfl) X
set_option maxRecDepth 20000 in
theorem r_X8_rule_0 {w : WS} {h : AH} {Q : Int → AH → Prop} {a1 : Int} (sA : shA w) (V : (inR a1 ∧ ((a1 < 0 → Q 0 h) ∧ (¬ a1 < 0 → ((2 < a1 → Q 0 h) ∧ (¬ 2 < a1 → (inR (h 44 10) ∧ ((¬ a1 = (h 44 10) → Q 1 (st h 44 10 a1)) ∧ (a1 = (h 44 10) → Q 0 h))))))))) : XI mX8_rule 0 [some (vR 1), some (vI a1)] [] w h Q := by
  refine s_iload_n (pc' := 1) (x := a1) dX8_rule_0 rfl rfl ?_
  obtain ⟨z1, V⟩ := V
  obtain ⟨V7, V8⟩ := V
  refine s_if_lt (pc' := 4) (tgt := 20) dX8_rule_1 rfl rfl z1 (fun c => ?_) (fun c => ?_)
  · have V := V7 c
    refine s_iconst (pc' := 21) dX8_rule_20 rfl ?_
    exact s_zret dX8_rule_21 rfl (by decide) ⟨_, rfl, rfl, V⟩
  · have V := V8 c
    refine s_iload_n (pc' := 5) (x := a1) dX8_rule_4 rfl rfl ?_
    refine s_iconst (pc' := 6) dX8_rule_5 rfl ?_
    obtain ⟨V5, V6⟩ := V
    refine s_icmp_gt (pc' := 9) (tgt := 20) dX8_rule_6 rfl rfl z1 (by decide) (fun c => ?_) (fun c => ?_)
    · have V := V5 c
      refine s_iconst (pc' := 21) dX8_rule_20 rfl ?_
      exact s_zret dX8_rule_21 rfl (by decide) ⟨_, rfl, rfl, V⟩
    · have V := V6 c
      refine s_iload_n (pc' := 10) (x := a1) dX8_rule_9 rfl rfl ?_
      refine s_aload_n (pc' := 11) (x := 1) dX8_rule_10 rfl rfl ?_
      refine s_getF (pc' := 14) (b := 44) (kc := 8) (i := 8) dX8_rule_11 clX8 (by decide) fl_8_8 (fa_t1 sA) (fa_f8_8 sA) (fun _ => rfl) rfl ?_
      refine s_callV (pc' := 17) (av := []) (a := 44) (sk := [vI a1]) (kc := 1) dX8_rule_14 ml_8_136 okX1_ruleNow oiX1_ruleNow (by decide) (NF := 11) rfl (fa_hand sA).1 rfl (Nat.le_of_ble_eq_true rfl) (Nat.le_refl 0) (Nat.le_refl 0) rfl (CI.eon (c_X1_ruleNow (fa_hand sA).1) ?_)
      obtain ⟨z2, V⟩ := V
      obtain ⟨V3, V4⟩ := V
      refine s_icmp_ne (pc' := 20) (tgt := 22) dX8_rule_17 rfl rfl z1 z2 (fun c => ?_) (fun c => ?_)
      · have V := V3 c
        refine s_aload_n (pc' := 23) (x := 1) dX8_rule_22 rfl rfl ?_
        refine s_getF (pc' := 26) (b := 44) (kc := 8) (i := 8) dX8_rule_23 clX8 (by decide) fl_8_8 (fa_t1 sA) (fa_f8_8 sA) (fun _ => rfl) rfl ?_
        refine s_iload_n (pc' := 27) (x := a1) dX8_rule_26 rfl rfl ?_
        refine s_callV (pc' := 30) (av := [vI a1]) (a := 44) (sk := []) (kc := 1) dX8_rule_27 ml_8_219 okX1_setRule oiX1_setRule (by decide) (NF := 11) rfl (fa_hand sA).1 rfl (Nat.le_of_ble_eq_true rfl) (Nat.le_refl 0) (Nat.le_refl 0) rfl (CV.eon (c_X1_setRule (fa_hand sA).1) ?_)
        refine s_iconst (pc' := 31) dX8_rule_30 rfl ?_
        exact s_zret dX8_rule_31 rfl (by decide) ⟨_, rfl, rfl, V⟩
      · have V := V4 c
        refine s_iconst (pc' := 21) dX8_rule_20 rfl ?_
        exact s_zret dX8_rule_21 rfl (by decide) ⟨_, rfl, rfl, V⟩
theorem e_X8_go {w : WS} {h : AH} {Q : Int → AH → Prop} {a1 : Int} (X : XI mX8_go 0 [some (vR 1), some (vI a1), none, none] [] w h Q) : CI mX8_go [vR 1, vI a1] w h Q := CA.of (M := mX8_go) (by decide) rfl (Nat.le_of_ble_eq_true rfl) X
set_option maxRecDepth 20000 in
theorem r_X8_go_0 {w : WS} {h : AH} {Q : Int → AH → Prop} {a1 : Int} (sA : shA w) (V : (inR a1 ∧ ((a1 < 1 → Q (-1) h) ∧ (¬ a1 < 1 → ((300 < a1 → Q (-1) h) ∧ (¬ 300 < a1 → CI mX8_handEnded [vR 1] w h (fun x3 h2 => (inR x3 ∧ ((x3 = 0 → XI mX8_go 25 [some (vR 1), some (vI a1), some (vI 0), some (vI 0)] [] w h2 Q) ∧ (¬ x3 = 0 → Q (-1) h2)))))))))) : XI mX8_go 0 [some (vR 1), some (vI a1), none, none] [] w h Q := by
  refine s_iload_n (pc' := 1) (x := a1) dX8_go_0 rfl rfl ?_
  refine s_iconst (pc' := 2) dX8_go_1 rfl ?_
  obtain ⟨z1, V⟩ := V
  obtain ⟨V9, V10⟩ := V
  refine s_icmp_lt (pc' := 5) (tgt := 19) dX8_go_2 rfl rfl z1 (by decide) (fun c => ?_) (fun c => ?_)
  · have V := V9 c
    refine s_iconst (pc' := 20) dX8_go_19 rfl ?_
    exact s_iret dX8_go_20 rfl ⟨_, rfl, rfl, V⟩
  · have V := V10 c
    refine s_iload_n (pc' := 6) (x := a1) dX8_go_5 rfl rfl ?_
    refine s_sipush (pc' := 9) dX8_go_6 (by decide) rfl ?_
    obtain ⟨V7, V8⟩ := V
    refine s_icmp_gt (pc' := 12) (tgt := 19) dX8_go_9 rfl rfl z1 (by decide) (fun c => ?_) (fun c => ?_)
    · have V := V7 c
      refine s_iconst (pc' := 20) dX8_go_19 rfl ?_
      exact s_iret dX8_go_20 rfl ⟨_, rfl, rfl, V⟩
    · have V := V8 c
      refine s_aload_n (pc' := 13) (x := 1) dX8_go_12 rfl rfl ?_
      refine s_callV (pc' := 16) (av := []) (a := 1) (sk := []) (kc := 8) dX8_go_13 ml_8_222 okX8_handEnded oiX8_handEnded (by decide) (NF := 14) rfl (fa_t1 sA) rfl (Nat.le_of_ble_eq_true rfl) (Nat.le_refl 0) (Nat.le_refl 0) rfl (CI.on V (fun x3 h2 V => ?_))
      obtain ⟨z4, V⟩ := V
      obtain ⟨V5, V6⟩ := V
      refine s_if_eq (pc' := 19) (tgt := 21) dX8_go_16 rfl rfl z4 (fun c => ?_) (fun c => ?_)
      · have V := V5 c
        refine s_iconst (pc' := 22) dX8_go_21 rfl ?_
        refine s_istore_n (pc' := 23) (ls' := [some (vR 1), some (vI a1), some (vI 0), none]) dX8_go_22 (by decide) rfl rfl ?_
        refine s_iconst (pc' := 24) dX8_go_23 rfl ?_
        refine s_istore_n (pc' := 25) (ls' := [some (vR 1), some (vI a1), some (vI 0), some (vI 0)]) dX8_go_24 (by decide) rfl rfl ?_
        exact V
      · have V := V6 c
        refine s_iconst (pc' := 20) dX8_go_19 rfl ?_
        exact s_iret dX8_go_20 rfl ⟨_, rfl, rfl, V⟩
set_option maxRecDepth 20000 in
theorem r_X8_go_25 {w : WS} {h : AH} {Q : Int → AH → Prop} {a1 a2 a3 : Int} (sA : shA w) (V : (inR a3 ∧ inR a1 ∧ ((a1 ≤ a3 → Q a2 h) ∧ (¬ a1 ≤ a3 → CI mX8_handEnded [vR 1] w h (fun x4 h3 => (inR x4 ∧ ((¬ x4 = 0 → Q a2 h3) ∧ (x4 = 0 → (wt w (h3 1 2) = 15 ∧ CI mX1_passTick [vR 44, vR 21, vI (h3 (h3 1 2) 10)] w h3 (fun x8 h7 => (inR x8 ∧ ((x8 = 0 → XI mX8_go 25 [some (vR 1), some (vI a1), some (vI a2), some (vI (a3 + 1))] [] w h7 Q) ∧ (¬ x8 = 0 → XI mX8_go 25 [some (vR 1), some (vI a1), some (vI (a2 + 1)), some (vI (a3 + 1))] [] w h7 Q))))))))))))) : XI mX8_go 25 [some (vR 1), some (vI a1), some (vI a2), some (vI a3)] [] w h Q := by
  refine s_iload_n (pc' := 26) (x := a3) dX8_go_25 rfl rfl ?_
  refine s_iload_n (pc' := 27) (x := a1) dX8_go_26 rfl rfl ?_
  obtain ⟨z1, z2, V⟩ := V
  obtain ⟨V14, V15⟩ := V
  refine s_icmp_ge (pc' := 30) (tgt := 67) dX8_go_27 rfl rfl z1 z2 (fun c => ?_) (fun c => ?_)
  · have V := V14 c
    refine s_iload_n (pc' := 68) (x := a2) dX8_go_67 rfl rfl ?_
    exact s_iret dX8_go_68 rfl ⟨_, rfl, rfl, V⟩
  · have V := V15 c
    refine s_aload_n (pc' := 31) (x := 1) dX8_go_30 rfl rfl ?_
    refine s_callV (pc' := 34) (av := []) (a := 1) (sk := []) (kc := 8) dX8_go_31 ml_8_222 okX8_handEnded oiX8_handEnded (by decide) (NF := 14) rfl (fa_t1 sA) rfl (Nat.le_of_ble_eq_true rfl) (Nat.le_refl 0) (Nat.le_refl 0) rfl (CI.on V (fun x4 h3 V => ?_))
    obtain ⟨z5, V⟩ := V
    obtain ⟨V12, V13⟩ := V
    refine s_if_ne (pc' := 37) (tgt := 67) dX8_go_34 rfl rfl z5 (fun c => ?_) (fun c => ?_)
    · have V := V12 c
      refine s_iload_n (pc' := 68) (x := a2) dX8_go_67 rfl rfl ?_
      exact s_iret dX8_go_68 rfl ⟨_, rfl, rfl, V⟩
    · have V := V13 c
      refine s_aload_n (pc' := 38) (x := 1) dX8_go_37 rfl rfl ?_
      refine s_getF (pc' := 41) (b := 44) (kc := 8) (i := 8) dX8_go_38 clX8 (by decide) fl_8_8 (fa_t1 sA) (fa_f8_8 sA) (fun _ => rfl) rfl ?_
      refine s_aload_n (pc' := 42) (x := 1) dX8_go_41 rfl rfl ?_
      refine s_getF (pc' := 45) (b := 21) (kc := 8) (i := 4) dX8_go_42 clX8 (by decide) fl_8_4 (fa_t1 sA) (fa_f8_4 sA) (fun _ => rfl) rfl ?_
      refine s_aload_n (pc' := 46) (x := 1) dX8_go_45 rfl rfl ?_
      refine s_get (pc' := 49) (v := vR (h3 1 2)) (kc := 8) (i := 2) dX8_go_46 clX8 (by decide) fl_8_2 (fa_t1 sA) (fun _ => rfl) rfl ?_
      obtain ⟨z6, V⟩ := V
      refine s_callV (pc' := 52) (av := []) (a := (h3 1 2)) (sk := [vR 21, vR 44]) (kc := 5) dX8_go_49 ml_8_127 okX5_wakePrice oiX5_wakePrice (by decide) (NF := 12) rfl z6 rfl (Nat.le_of_ble_eq_true rfl) (Nat.le_refl 0) (Nat.le_refl 0) rfl (CI.eon (c_X5_wakePrice z6) ?_)
      refine s_callV (pc' := 55) (av := [vR 21, vI (h3 (h3 1 2) 10)]) (a := 44) (sk := []) (kc := 1) dX8_go_52 ml_8_226 okX1_passTick oiX1_passTick (by decide) (NF := 11) rfl (fa_hand sA).1 rfl (Nat.le_of_ble_eq_true rfl) (Nat.le_refl 0) (Nat.le_refl 0) rfl (CI.on V (fun x8 h7 V => ?_))
      obtain ⟨z9, V⟩ := V
      obtain ⟨V10, V11⟩ := V
      refine s_if_eq (pc' := 58) (tgt := 61) dX8_go_55 rfl rfl z9 (fun c => ?_) (fun c => ?_)
      · have V := V10 c
        refine s_iinc (pc' := 64) (ls' := [some (vR 1), some (vI a1), some (vI a2), some (vI (a3 + 1))]) dX8_go_61 rfl (by decide) rfl rfl ?_
        refine s_goto (tgt := 25) dX8_go_64 rfl ?_
        exact V
      · have V := V11 c
        refine s_iinc (pc' := 61) (ls' := [some (vR 1), some (vI a1), some (vI (a2 + 1)), some (vI a3)]) dX8_go_58 rfl (by decide) rfl rfl ?_
        refine s_iinc (pc' := 64) (ls' := [some (vR 1), some (vI a1), some (vI (a2 + 1)), some (vI (a3 + 1))]) dX8_go_61 rfl (by decide) rfl rfl ?_
        refine s_goto (tgt := 25) dX8_go_64 rfl ?_
        exact V
theorem e_X8_ring {w : WS} {h : AH} {Q : Int → AH → Prop} {a1 : Int} (X : XI mX8_ring 0 [some (vR 1), some (vI a1), none] [] w h Q) : CI mX8_ring [vR 1, vI a1] w h Q := CA.of (M := mX8_ring) (by decide) rfl (Nat.le_of_ble_eq_true rfl) X
set_option maxRecDepth 20000 in
theorem r_X8_ring_0 {w : WS} {h : AH} {Q : Int → AH → Prop} {a1 : Int} (sA : shA w) (V : (wt w (h 1 2) = 15 ∧ inR a1 ∧ inR (h (h 1 2) 4) ∧ ((¬ (0 ≤ a1 ∧ a1 < h (h 1 2) 4) → Q (-1) h) ∧ ((0 ≤ a1 ∧ a1 < h (h 1 2) 4) → CI mX8_handEnded [vR 1] w h (fun x5 h4 => (inR x5 ∧ ((¬ x5 = 0 → Q (-1) h4) ∧ (x5 = 0 → (inR (h4 44 4) ∧ (((h4 44 4) < 100 → (wt w (h4 1 2) = 15 ∧ CI mX5_slackOf [vR (h4 1 2), vI a1] w h4 (fun x10 h9 => (wt w (h9 1 2) = 15 ∧ (inR ((h4 44 9) + x10) ∧ inR (h9 (h9 1 2) 9) ∧ (∀ y14, y14 = (min ((h4 44 9) + x10) (h9 (h9 1 2) 9)) → CI mX5_weightOf [vR (h9 1 2), vI a1] w h9 (fun x17 h16 => CV mX1_addRung [vR 44, vI y14, vI x17] w h16 (fun h18 => Q y14 h18)))))))) ∧ (¬ (h4 44 4) < 100 → Q (-1) h4))))))))))) : XI mX8_ring 0 [some (vR 1), some (vI a1), none] [] w h Q := by
  refine s_aload_n (pc' := 1) (x := 1) dX8_ring_0 rfl rfl ?_
  refine s_get (pc' := 4) (v := vR (h 1 2)) (kc := 8) (i := 2) dX8_ring_1 clX8 (by decide) fl_8_2 (fa_t1 sA) (fun _ => rfl) rfl ?_
  refine s_iload_n (pc' := 5) (x := a1) dX8_ring_4 rfl rfl ?_
  obtain ⟨z1, z2, z3, V⟩ := V
  refine s_callV (pc' := 8) (av := [vI a1]) (a := (h 1 2)) (sk := []) (kc := 5) dX8_ring_5 ml_8_139 okX5_hasKind oiX5_hasKind (by decide) (NF := 12) rfl z1 rfl (Nat.le_of_ble_eq_true rfl) (Nat.le_refl 0) (Nat.le_refl 0) rfl (CI.eon (c_X5_hasKind z1 z2 z3) ?_)
  obtain ⟨V23, V24⟩ := V
  refine s_ifeq_b (pc' := 11) (tgt := 30) dX8_ring_8 rfl rfl (fun c => ?_) (fun c => ?_)
  · have V := V23 c
    refine s_iconst (pc' := 31) dX8_ring_30 rfl ?_
    exact s_iret dX8_ring_31 rfl ⟨_, rfl, rfl, V⟩
  · have V := V24 c
    refine s_aload_n (pc' := 12) (x := 1) dX8_ring_11 rfl rfl ?_
    refine s_callV (pc' := 15) (av := []) (a := 1) (sk := []) (kc := 8) dX8_ring_12 ml_8_222 okX8_handEnded oiX8_handEnded (by decide) (NF := 14) rfl (fa_t1 sA) rfl (Nat.le_of_ble_eq_true rfl) (Nat.le_refl 0) (Nat.le_refl 0) rfl (CI.on V (fun x5 h4 V => ?_))
    obtain ⟨z6, V⟩ := V
    obtain ⟨V21, V22⟩ := V
    refine s_if_ne (pc' := 18) (tgt := 30) dX8_ring_15 rfl rfl z6 (fun c => ?_) (fun c => ?_)
    · have V := V21 c
      refine s_iconst (pc' := 31) dX8_ring_30 rfl ?_
      exact s_iret dX8_ring_31 rfl ⟨_, rfl, rfl, V⟩
    · have V := V22 c
      refine s_aload_n (pc' := 19) (x := 1) dX8_ring_18 rfl rfl ?_
      refine s_getF (pc' := 22) (b := 44) (kc := 8) (i := 8) dX8_ring_19 clX8 (by decide) fl_8_8 (fa_t1 sA) (fa_f8_8 sA) (fun _ => rfl) rfl ?_
      refine s_callV (pc' := 25) (av := []) (a := 44) (sk := []) (kc := 1) dX8_ring_22 ml_8_230 okX1_rungCalls oiX1_rungCalls (by decide) (NF := 11) rfl (fa_hand sA).1 rfl (Nat.le_of_ble_eq_true rfl) (Nat.le_refl 0) (Nat.le_refl 0) rfl (CI.eon (c_X1_rungCalls (fa_hand sA).1) ?_)
      refine s_bipush (pc' := 27) dX8_ring_25 (by decide) rfl ?_
      obtain ⟨z7, V⟩ := V
      obtain ⟨V19, V20⟩ := V
      refine s_icmp_lt (pc' := 30) (tgt := 32) dX8_ring_27 rfl rfl z7 (by decide) (fun c => ?_) (fun c => ?_)
      · have V := V19 c
        refine s_aload_n (pc' := 33) (x := 1) dX8_ring_32 rfl rfl ?_
        refine s_getF (pc' := 36) (b := 44) (kc := 8) (i := 8) dX8_ring_33 clX8 (by decide) fl_8_8 (fa_t1 sA) (fa_f8_8 sA) (fun _ => rfl) rfl ?_
        refine s_callV (pc' := 39) (av := []) (a := 44) (sk := []) (kc := 1) dX8_ring_36 ml_8_133 okX1_tick oiX1_tick (by decide) (NF := 11) rfl (fa_hand sA).1 rfl (Nat.le_of_ble_eq_true rfl) (Nat.le_refl 0) (Nat.le_refl 0) rfl (CI.eon (c_X1_tick (fa_hand sA).1) ?_)
        refine s_aload_n (pc' := 40) (x := 1) dX8_ring_39 rfl rfl ?_
        refine s_get (pc' := 43) (v := vR (h4 1 2)) (kc := 8) (i := 2) dX8_ring_40 clX8 (by decide) fl_8_2 (fa_t1 sA) (fun _ => rfl) rfl ?_
        refine s_iload_n (pc' := 44) (x := a1) dX8_ring_43 rfl rfl ?_
        obtain ⟨z8, V⟩ := V
        refine s_callV (pc' := 47) (av := [vI a1]) (a := (h4 1 2)) (sk := [vI (h4 44 9)]) (kc := 5) dX8_ring_44 ml_8_147 okX5_slackOf oiX5_slackOf (by decide) (NF := 12) rfl z8 rfl (Nat.le_of_ble_eq_true rfl) (Nat.le_refl 0) (Nat.le_refl 0) rfl (CI.on V (fun x10 h9 V => ?_))
        refine s_iadd (pc' := 48) dX8_ring_47 rfl ?_
        refine s_aload_n (pc' := 49) (x := 1) dX8_ring_48 rfl rfl ?_
        refine s_get (pc' := 52) (v := vR (h9 1 2)) (kc := 8) (i := 2) dX8_ring_49 clX8 (by decide) fl_8_2 (fa_t1 sA) (fun _ => rfl) rfl ?_
        obtain ⟨z11, V⟩ := V
        refine s_callV (pc' := 55) (av := []) (a := (h9 1 2)) (sk := [vI ((h4 44 9) + x10)]) (kc := 5) dX8_ring_52 ml_8_124 okX5_length oiX5_length (by decide) (NF := 12) rfl z11 rfl (Nat.le_of_ble_eq_true rfl) (Nat.le_refl 0) (Nat.le_refl 0) rfl (CI.eon (c_X5_length z11) ?_)
        obtain ⟨z12, z13, V⟩ := V
        refine s_min (pc' := 58) dX8_ring_55 ml_8_233 mst_min mini_Math mcode_min (by decide) (Nat.le_of_ble_eq_true rfl) z12 z13 rfl ?_
        obtain ⟨y14, e15⟩ : ∃ q, q = (min ((h4 44 9) + x10) (h9 (h9 1 2) 9)) := ⟨_, rfl⟩
        rw [← e15]
        have V := V y14 e15
        refine s_istore_n (pc' := 59) (ls' := [some (vR 1), some (vI a1), some (vI y14)]) dX8_ring_58 (by decide) rfl rfl ?_
        refine s_aload_n (pc' := 60) (x := 1) dX8_ring_59 rfl rfl ?_
        refine s_getF (pc' := 63) (b := 44) (kc := 8) (i := 8) dX8_ring_60 clX8 (by decide) fl_8_8 (fa_t1 sA) (fa_f8_8 sA) (fun _ => rfl) rfl ?_
        refine s_iload_n (pc' := 64) (x := y14) dX8_ring_63 rfl rfl ?_
        refine s_aload_n (pc' := 65) (x := 1) dX8_ring_64 rfl rfl ?_
        refine s_get (pc' := 68) (v := vR (h9 1 2)) (kc := 8) (i := 2) dX8_ring_65 clX8 (by decide) fl_8_2 (fa_t1 sA) (fun _ => rfl) rfl ?_
        refine s_iload_n (pc' := 69) (x := a1) dX8_ring_68 rfl rfl ?_
        refine s_callV (pc' := 72) (av := [vI a1]) (a := (h9 1 2)) (sk := [vI y14, vR 44]) (kc := 5) dX8_ring_69 ml_8_150 okX5_weightOf oiX5_weightOf (by decide) (NF := 12) rfl z11 rfl (Nat.le_of_ble_eq_true rfl) (Nat.le_refl 0) (Nat.le_refl 0) rfl (CI.on V (fun x17 h16 V => ?_))
        refine s_callV (pc' := 75) (av := [vI y14, vI x17]) (a := 44) (sk := []) (kc := 1) dX8_ring_72 ml_8_238 okX1_addRung oiX1_addRung (by decide) (NF := 11) rfl (fa_hand sA).1 rfl (Nat.le_of_ble_eq_true rfl) (Nat.le_refl 0) (Nat.le_refl 0) rfl (CV.on V (fun h18 V => ?_))
        refine s_iload_n (pc' := 76) (x := y14) dX8_ring_75 rfl rfl ?_
        exact s_iret dX8_ring_76 rfl ⟨_, rfl, rfl, V⟩
      · have V := V20 c
        refine s_iconst (pc' := 31) dX8_ring_30 rfl ?_
        exact s_iret dX8_ring_31 rfl ⟨_, rfl, rfl, V⟩
theorem e_X8_now {w : WS} {h : AH} {Q : Int → AH → Prop} (X : XI mX8_now 0 [some (vR 1), none] [] w h Q) : CI mX8_now [vR 1] w h Q := CA.of (M := mX8_now) (by decide) rfl (Nat.le_of_ble_eq_true rfl) X
set_option maxRecDepth 20000 in
theorem r_X8_now_0 {w : WS} {h : AH} {Q : Int → AH → Prop} (sA : shA w) (V : (inR (h (44 + 1) 4 - h 44 5) ∧ ((¬ (h (44 + 1) 4 - h 44 5) = 0 → CV mX1_wakeHere [vR 44] w h (fun h2 => Q (h (44 + 1) 4 - h 44 5) h2)) ∧ ((h (44 + 1) 4 - h 44 5) = 0 → Q (-1) h)))) : XI mX8_now 0 [some (vR 1), none] [] w h Q := by
  refine s_aload_n (pc' := 1) (x := 1) dX8_now_0 rfl rfl ?_
  refine s_getF (pc' := 4) (b := 44) (kc := 8) (i := 8) dX8_now_1 clX8 (by decide) fl_8_8 (fa_t1 sA) (fa_f8_8 sA) (fun _ => rfl) rfl ?_
  refine s_callV (pc' := 7) (av := []) (a := 44) (sk := []) (kc := 1) dX8_now_4 ml_8_241 okX1_openCalls oiX1_openCalls (by decide) (NF := 11) rfl (fa_hand sA).1 rfl (Nat.le_of_ble_eq_true rfl) (Nat.le_refl 0) (Nat.le_refl 0) rfl (CI.eon (c_X1_openCalls (fa_hand sA)) ?_)
  refine s_istore_n (pc' := 8) (ls' := [some (vR 1), some (vI (h (44 + 1) 4 - h 44 5))]) dX8_now_7 (by decide) rfl rfl ?_
  refine s_iload_n (pc' := 9) (x := (h (44 + 1) 4 - h 44 5)) dX8_now_8 rfl rfl ?_
  obtain ⟨z1, V⟩ := V
  obtain ⟨V3, V4⟩ := V
  refine s_if_ne (pc' := 12) (tgt := 14) dX8_now_9 rfl rfl z1 (fun c => ?_) (fun c => ?_)
  · have V := V3 c
    refine s_aload_n (pc' := 15) (x := 1) dX8_now_14 rfl rfl ?_
    refine s_getF (pc' := 18) (b := 44) (kc := 8) (i := 8) dX8_now_15 clX8 (by decide) fl_8_8 (fa_t1 sA) (fa_f8_8 sA) (fun _ => rfl) rfl ?_
    refine s_callV (pc' := 21) (av := []) (a := 44) (sk := []) (kc := 1) dX8_now_18 ml_8_244 okX1_wakeHere oiX1_wakeHere (by decide) (NF := 11) rfl (fa_hand sA).1 rfl (Nat.le_of_ble_eq_true rfl) (Nat.le_refl 0) (Nat.le_refl 0) rfl (CV.on V (fun h2 V => ?_))
    refine s_iload_n (pc' := 22) (x := (h (44 + 1) 4 - h 44 5)) dX8_now_21 rfl rfl ?_
    exact s_iret dX8_now_22 rfl ⟨_, rfl, rfl, V⟩
  · have V := V4 c
    refine s_iconst (pc' := 13) dX8_now_12 rfl ?_
    exact s_iret dX8_now_13 rfl ⟨_, rfl, rfl, V⟩
theorem e_X8_hand {w : WS} {h : AH} {Q : Int → AH → Prop} {a1 : Int} (X : XI mX8_hand 0 [some (vR 1), some (vI a1)] [] w h Q) : CI mX8_hand [vR 1, vI a1] w h Q := CA.of (M := mX8_hand) (by decide) rfl (Nat.le_of_ble_eq_true rfl) X
set_option maxRecDepth 20000 in
theorem r_X8_hand_0 {w : WS} {h : AH} {Q : Int → AH → Prop} {a1 : Int} (sA : shA w) (V : (inR a1 ∧ ((a1 = 0 → Q (h (44 + 1) 4) h) ∧ (a1 = 1 → Q (h (44 + 1) 4 - h 44 5) h) ∧ (a1 = 2 → Q (h 44 6) h) ∧ (a1 = 3 → (wt w (h 1 2) = 15 ∧ Q ((h (h 1 2) 10) * h 44 6 + h 44 7) h)) ∧ (a1 = 4 → CI mX1_openWaits [vR 44] w h (fun x8 h7 => Q x8 h7)) ∧ (a1 = 5 → CI mX1_openLatest [vR 44] w h (fun x11 h10 => Q x11 h10)) ∧ (a1 = 6 → Q (h 44 8) h) ∧ (a1 = 7 → CR mX1_hindsight [vR 44, vR 40, vR (h 1 2)] w h (fun x15 h14 => (wt w (h14 1 2) = 15 ∧ CI mX1_costOf [vR 44, vR x15, vI (h14 (h14 1 2) 10)] w h14 (fun x18 h17 => Q x18 h17)))) ∧ (a1 = 8 → CR mX1_hindsight [vR 44, vR 40, vR (h 1 2)] w h (fun x21 h20 => (wt w x21 = 17 ∧ Q (h20 x21 1) h20))) ∧ ((a1 < 0 ∨ 8 < a1) → Q (-1) h)))) : XI mX8_hand 0 [some (vR 1), some (vI a1)] [] w h Q := by
  refine s_iload_n (pc' := 1) (x := a1) dX8_hand_0 rfl rfl ?_
  obtain ⟨z1, V⟩ := V
  obtain ⟨V2, V3, V4, V6, V9, V12, V13, V19, V23, V24⟩ := V
  by_cases c : a1 = 0
  · have V := V2 c
    refine s_tableIn (v := 0) (tgt := 52) dX8_hand_1 c (by decide) (by decide) (by decide) rfl rfl ?_
    refine s_aload_n (pc' := 53) (x := 1) dX8_hand_52 rfl rfl ?_
    refine s_getF (pc' := 56) (b := 44) (kc := 8) (i := 8) dX8_hand_53 clX8 (by decide) fl_8_8 (fa_t1 sA) (fa_f8_8 sA) (fun _ => rfl) rfl ?_
    refine s_callV (pc' := 59) (av := []) (a := 44) (sk := []) (kc := 1) dX8_hand_56 ml_8_247 okX1_callsCame oiX1_callsCame (by decide) (NF := 11) rfl (fa_hand sA).1 rfl (Nat.le_of_ble_eq_true rfl) (Nat.le_refl 0) (Nat.le_refl 0) rfl (CI.eon (c_X1_callsCame (fa_hand sA)) ?_)
    exact s_iret dX8_hand_59 rfl ⟨_, rfl, rfl, V⟩
  have c0 := c
  by_cases c : a1 = 1
  · have V := V3 c
    refine s_tableIn (v := 1) (tgt := 60) dX8_hand_1 c (by decide) (by decide) (by decide) rfl rfl ?_
    refine s_aload_n (pc' := 61) (x := 1) dX8_hand_60 rfl rfl ?_
    refine s_getF (pc' := 64) (b := 44) (kc := 8) (i := 8) dX8_hand_61 clX8 (by decide) fl_8_8 (fa_t1 sA) (fa_f8_8 sA) (fun _ => rfl) rfl ?_
    refine s_callV (pc' := 67) (av := []) (a := 44) (sk := []) (kc := 1) dX8_hand_64 ml_8_241 okX1_openCalls oiX1_openCalls (by decide) (NF := 11) rfl (fa_hand sA).1 rfl (Nat.le_of_ble_eq_true rfl) (Nat.le_refl 0) (Nat.le_refl 0) rfl (CI.eon (c_X1_openCalls (fa_hand sA)) ?_)
    exact s_iret dX8_hand_67 rfl ⟨_, rfl, rfl, V⟩
  have c1 := c
  by_cases c : a1 = 2
  · have V := V4 c
    refine s_tableIn (v := 2) (tgt := 68) dX8_hand_1 c (by decide) (by decide) (by decide) rfl rfl ?_
    refine s_aload_n (pc' := 69) (x := 1) dX8_hand_68 rfl rfl ?_
    refine s_getF (pc' := 72) (b := 44) (kc := 8) (i := 8) dX8_hand_69 clX8 (by decide) fl_8_8 (fa_t1 sA) (fa_f8_8 sA) (fun _ => rfl) rfl ?_
    refine s_callV (pc' := 75) (av := []) (a := 44) (sk := []) (kc := 1) dX8_hand_72 ml_8_250 okX1_wakeups oiX1_wakeups (by decide) (NF := 11) rfl (fa_hand sA).1 rfl (Nat.le_of_ble_eq_true rfl) (Nat.le_refl 0) (Nat.le_refl 0) rfl (CI.eon (c_X1_wakeups (fa_hand sA).1) ?_)
    exact s_iret dX8_hand_75 rfl ⟨_, rfl, rfl, V⟩
  have c2 := c
  by_cases c : a1 = 3
  · have V := V6 c
    refine s_tableIn (v := 3) (tgt := 76) dX8_hand_1 c (by decide) (by decide) (by decide) rfl rfl ?_
    refine s_aload_n (pc' := 77) (x := 1) dX8_hand_76 rfl rfl ?_
    refine s_getF (pc' := 80) (b := 44) (kc := 8) (i := 8) dX8_hand_77 clX8 (by decide) fl_8_8 (fa_t1 sA) (fa_f8_8 sA) (fun _ => rfl) rfl ?_
    refine s_aload_n (pc' := 81) (x := 1) dX8_hand_80 rfl rfl ?_
    refine s_get (pc' := 84) (v := vR (h 1 2)) (kc := 8) (i := 2) dX8_hand_81 clX8 (by decide) fl_8_2 (fa_t1 sA) (fun _ => rfl) rfl ?_
    obtain ⟨z5, V⟩ := V
    refine s_callV (pc' := 87) (av := []) (a := (h 1 2)) (sk := [vR 44]) (kc := 5) dX8_hand_84 ml_8_127 okX5_wakePrice oiX5_wakePrice (by decide) (NF := 12) rfl z5 rfl (Nat.le_of_ble_eq_true rfl) (Nat.le_refl 0) (Nat.le_refl 0) rfl (CI.eon (c_X5_wakePrice z5) ?_)
    refine s_callV (pc' := 90) (av := [vI (h (h 1 2) 10)]) (a := 44) (sk := []) (kc := 1) dX8_hand_87 ml_8_253 okX1_costSoFar oiX1_costSoFar (by decide) (NF := 11) rfl (fa_hand sA).1 rfl (Nat.le_of_ble_eq_true rfl) (Nat.le_refl 0) (Nat.le_refl 0) rfl (CI.eon (c_X1_costSoFar (fa_hand sA).1) ?_)
    exact s_iret dX8_hand_90 rfl ⟨_, rfl, rfl, V⟩
  have c3 := c
  by_cases c : a1 = 4
  · have V := V9 c
    refine s_tableIn (v := 4) (tgt := 91) dX8_hand_1 c (by decide) (by decide) (by decide) rfl rfl ?_
    refine s_aload_n (pc' := 92) (x := 1) dX8_hand_91 rfl rfl ?_
    refine s_getF (pc' := 95) (b := 44) (kc := 8) (i := 8) dX8_hand_92 clX8 (by decide) fl_8_8 (fa_t1 sA) (fa_f8_8 sA) (fun _ => rfl) rfl ?_
    refine s_callV (pc' := 98) (av := []) (a := 44) (sk := []) (kc := 1) dX8_hand_95 ml_8_256 okX1_openWaits oiX1_openWaits (by decide) (NF := 11) rfl (fa_hand sA).1 rfl (Nat.le_of_ble_eq_true rfl) (Nat.le_refl 0) (Nat.le_refl 0) rfl (CI.on V (fun x8 h7 V => ?_))
    exact s_iret dX8_hand_98 rfl ⟨_, rfl, rfl, V⟩
  have c4 := c
  by_cases c : a1 = 5
  · have V := V12 c
    refine s_tableIn (v := 5) (tgt := 99) dX8_hand_1 c (by decide) (by decide) (by decide) rfl rfl ?_
    refine s_aload_n (pc' := 100) (x := 1) dX8_hand_99 rfl rfl ?_
    refine s_getF (pc' := 103) (b := 44) (kc := 8) (i := 8) dX8_hand_100 clX8 (by decide) fl_8_8 (fa_t1 sA) (fa_f8_8 sA) (fun _ => rfl) rfl ?_
    refine s_callV (pc' := 106) (av := []) (a := 44) (sk := []) (kc := 1) dX8_hand_103 ml_8_259 okX1_openLatest oiX1_openLatest (by decide) (NF := 11) rfl (fa_hand sA).1 rfl (Nat.le_of_ble_eq_true rfl) (Nat.le_refl 0) (Nat.le_refl 0) rfl (CI.on V (fun x11 h10 V => ?_))
    exact s_iret dX8_hand_106 rfl ⟨_, rfl, rfl, V⟩
  have c5 := c
  by_cases c : a1 = 6
  · have V := V13 c
    refine s_tableIn (v := 6) (tgt := 107) dX8_hand_1 c (by decide) (by decide) (by decide) rfl rfl ?_
    refine s_aload_n (pc' := 108) (x := 1) dX8_hand_107 rfl rfl ?_
    refine s_getF (pc' := 111) (b := 44) (kc := 8) (i := 8) dX8_hand_108 clX8 (by decide) fl_8_8 (fa_t1 sA) (fa_f8_8 sA) (fun _ => rfl) rfl ?_
    refine s_callV (pc' := 114) (av := []) (a := 44) (sk := []) (kc := 1) dX8_hand_111 ml_8_262 okX1_latestWake oiX1_latestWake (by decide) (NF := 11) rfl (fa_hand sA).1 rfl (Nat.le_of_ble_eq_true rfl) (Nat.le_refl 0) (Nat.le_refl 0) rfl (CI.eon (c_X1_latestWake (fa_hand sA).1) ?_)
    exact s_iret dX8_hand_114 rfl ⟨_, rfl, rfl, V⟩
  have c6 := c
  by_cases c : a1 = 7
  · have V := V19 c
    refine s_tableIn (v := 7) (tgt := 115) dX8_hand_1 c (by decide) (by decide) (by decide) rfl rfl ?_
    refine s_aload_n (pc' := 116) (x := 1) dX8_hand_115 rfl rfl ?_
    refine s_getF (pc' := 119) (b := 44) (kc := 8) (i := 8) dX8_hand_116 clX8 (by decide) fl_8_8 (fa_t1 sA) (fa_f8_8 sA) (fun _ => rfl) rfl ?_
    refine s_aload_n (pc' := 120) (x := 1) dX8_hand_119 rfl rfl ?_
    refine s_getF (pc' := 123) (b := 44) (kc := 8) (i := 8) dX8_hand_120 clX8 (by decide) fl_8_8 (fa_t1 sA) (fa_f8_8 sA) (fun _ => rfl) rfl ?_
    refine s_aload_n (pc' := 124) (x := 1) dX8_hand_123 rfl rfl ?_
    refine s_getF (pc' := 127) (b := 40) (kc := 8) (i := 7) dX8_hand_124 clX8 (by decide) fl_8_7 (fa_t1 sA) (fa_f8_7 sA) (fun _ => rfl) rfl ?_
    refine s_aload_n (pc' := 128) (x := 1) dX8_hand_127 rfl rfl ?_
    refine s_get (pc' := 131) (v := vR (h 1 2)) (kc := 8) (i := 2) dX8_hand_128 clX8 (by decide) fl_8_2 (fa_t1 sA) (fun _ => rfl) rfl ?_
    refine s_callV (pc' := 134) (av := [vR 40, vR (h 1 2)]) (a := 44) (sk := [vR 44]) (kc := 1) dX8_hand_131 ml_8_265 okX1_hindsight oiX1_hindsight (by decide) (NF := 11) rfl (fa_hand sA).1 rfl (Nat.le_of_ble_eq_true rfl) (Nat.le_refl 0) (Nat.le_refl 0) rfl (CR.on V (fun x15 h14 V => ?_))
    refine s_aload_n (pc' := 135) (x := 1) dX8_hand_134 rfl rfl ?_
    refine s_get (pc' := 138) (v := vR (h14 1 2)) (kc := 8) (i := 2) dX8_hand_135 clX8 (by decide) fl_8_2 (fa_t1 sA) (fun _ => rfl) rfl ?_
    obtain ⟨z16, V⟩ := V
    refine s_callV (pc' := 141) (av := []) (a := (h14 1 2)) (sk := [vR x15, vR 44]) (kc := 5) dX8_hand_138 ml_8_127 okX5_wakePrice oiX5_wakePrice (by decide) (NF := 12) rfl z16 rfl (Nat.le_of_ble_eq_true rfl) (Nat.le_refl 0) (Nat.le_refl 0) rfl (CI.eon (c_X5_wakePrice z16) ?_)
    refine s_callV (pc' := 144) (av := [vR x15, vI (h14 (h14 1 2) 10)]) (a := 44) (sk := []) (kc := 1) dX8_hand_141 ml_8_269 okX1_costOf oiX1_costOf (by decide) (NF := 11) rfl (fa_hand sA).1 rfl (Nat.le_of_ble_eq_true rfl) (Nat.le_refl 0) (Nat.le_refl 0) rfl (CI.on V (fun x18 h17 V => ?_))
    exact s_iret dX8_hand_144 rfl ⟨_, rfl, rfl, V⟩
  have c7 := c
  by_cases c : a1 = 8
  · have V := V23 c
    refine s_tableIn (v := 8) (tgt := 145) dX8_hand_1 c (by decide) (by decide) (by decide) rfl rfl ?_
    refine s_aload_n (pc' := 146) (x := 1) dX8_hand_145 rfl rfl ?_
    refine s_getF (pc' := 149) (b := 44) (kc := 8) (i := 8) dX8_hand_146 clX8 (by decide) fl_8_8 (fa_t1 sA) (fa_f8_8 sA) (fun _ => rfl) rfl ?_
    refine s_aload_n (pc' := 150) (x := 1) dX8_hand_149 rfl rfl ?_
    refine s_getF (pc' := 153) (b := 40) (kc := 8) (i := 7) dX8_hand_150 clX8 (by decide) fl_8_7 (fa_t1 sA) (fa_f8_7 sA) (fun _ => rfl) rfl ?_
    refine s_aload_n (pc' := 154) (x := 1) dX8_hand_153 rfl rfl ?_
    refine s_get (pc' := 157) (v := vR (h 1 2)) (kc := 8) (i := 2) dX8_hand_154 clX8 (by decide) fl_8_2 (fa_t1 sA) (fun _ => rfl) rfl ?_
    refine s_callV (pc' := 160) (av := [vR 40, vR (h 1 2)]) (a := 44) (sk := []) (kc := 1) dX8_hand_157 ml_8_265 okX1_hindsight oiX1_hindsight (by decide) (NF := 11) rfl (fa_hand sA).1 rfl (Nat.le_of_ble_eq_true rfl) (Nat.le_refl 0) (Nat.le_refl 0) rfl (CR.on V (fun x21 h20 V => ?_))
    obtain ⟨z22, V⟩ := V
    refine s_callV (pc' := 163) (av := []) (a := x21) (sk := []) (kc := 7) dX8_hand_160 ml_8_186 okX7_size oiX7_size (by decide) (NF := 2) rfl z22 rfl (Nat.le_of_ble_eq_true rfl) (Nat.le_refl 0) (Nat.le_refl 0) rfl (CI.eon (c_X7_size z22) ?_)
    exact s_iret dX8_hand_163 rfl ⟨_, rfl, rfl, V⟩
  have c8 := c
  have co : a1 < 0 ∨ 8 < a1 := by omega
  have V := V24 co
  refine s_tableOut (tgt := 164) dX8_hand_1 z1 co rfl ?_
  refine s_iconst (pc' := 165) dX8_hand_164 rfl ?_
  exact s_iret dX8_hand_165 rfl ⟨_, rfl, rfl, V⟩
theorem e_X8_round {w : WS} {h : AH} {Q : Int → AH → Prop} {a1 : Int} (X : XI mX8_round 0 [some (vR 1), some (vI a1), none] [] w h Q) : CI mX8_round [vR 1, vI a1] w h Q := CA.of (M := mX8_round) (by decide) rfl (Nat.le_of_ble_eq_true rfl) X
set_option maxRecDepth 20000 in
theorem r_X8_round_0 {w : WS} {h : AH} {Q : Int → AH → Prop} {a1 : Int} (sA : shA w) (V : CR mX8_roundMade [vR 1] w h (fun x2 h1 => (wt w x2 = 14 ∧ inR (h1 x2 4) ∧ (((0 < h1 x2 4) → (inR a1 ∧ ((a1 = 0 → Q (h1 x2 2) h1) ∧ (a1 = 1 → Q (h1 x2 3) h1) ∧ (a1 = 2 → Q (h1 x2 4) h1) ∧ (a1 = 3 → Q (h1 x2 5) h1) ∧ ((a1 < 0 ∨ 3 < a1) → Q (-1) h1)))) ∧ (¬ (0 < h1 x2 4) → Q (-1) h1))))) : XI mX8_round 0 [some (vR 1), some (vI a1), none] [] w h Q := by
  refine s_aload_n (pc' := 1) (x := 1) dX8_round_0 rfl rfl ?_
  refine s_callV (pc' := 4) (av := []) (a := 1) (sk := []) (kc := 8) dX8_round_1 ml_8_273 okX8_roundMade oiX8_roundMade (by decide) (NF := 14) rfl (fa_t1 sA) rfl (Nat.le_of_ble_eq_true rfl) (Nat.le_refl 0) (Nat.le_refl 0) rfl (CR.on V (fun x2 h1 V => ?_))
  refine s_astore_n (pc' := 5) (ls' := [some (vR 1), some (vI a1), some (vR x2)]) dX8_round_4 (by decide) rfl rfl ?_
  refine s_aload_n (pc' := 6) (x := x2) dX8_round_5 rfl rfl ?_
  obtain ⟨z3, z4, V⟩ := V
  refine s_callV (pc' := 9) (av := []) (a := x2) (sk := []) (kc := 4) dX8_round_6 ml_8_277 okX4_exists oiX4_exists (by decide) (NF := 6) rfl z3 rfl (Nat.le_of_ble_eq_true rfl) (Nat.le_refl 0) (Nat.le_refl 0) rfl (CI.eon (c_X4_exists z3 z4) ?_)
  obtain ⟨V11, V12⟩ := V
  refine s_ifne_b (pc' := 12) (tgt := 14) dX8_round_9 rfl rfl (fun c => ?_) (fun c => ?_)
  · have V := V11 c
    refine s_iload_n (pc' := 15) (x := a1) dX8_round_14 rfl rfl ?_
    obtain ⟨z5, V⟩ := V
    obtain ⟨V6, V7, V8, V9, V10⟩ := V
    by_cases c : a1 = 0
    · have V := V6 c
      refine s_tableIn (v := 0) (tgt := 44) dX8_round_15 c (by decide) (by decide) (by decide) rfl rfl ?_
      refine s_aload_n (pc' := 45) (x := x2) dX8_round_44 rfl rfl ?_
      refine s_callV (pc' := 48) (av := []) (a := x2) (sk := []) (kc := 4) dX8_round_45 ml_8_280 okX4_hyper oiX4_hyper (by decide) (NF := 6) rfl z3 rfl (Nat.le_of_ble_eq_true rfl) (Nat.le_refl 0) (Nat.le_refl 0) rfl (CI.eon (c_X4_hyper z3) ?_)
      exact s_iret dX8_round_48 rfl ⟨_, rfl, rfl, V⟩
    have c0 := c
    by_cases c : a1 = 1
    · have V := V7 c
      refine s_tableIn (v := 1) (tgt := 49) dX8_round_15 c (by decide) (by decide) (by decide) rfl rfl ?_
      refine s_aload_n (pc' := 50) (x := x2) dX8_round_49 rfl rfl ?_
      refine s_callV (pc' := 53) (av := []) (a := x2) (sk := []) (kc := 4) dX8_round_50 ml_8_283 okX4_callsByHyper oiX4_callsByHyper (by decide) (NF := 6) rfl z3 rfl (Nat.le_of_ble_eq_true rfl) (Nat.le_refl 0) (Nat.le_refl 0) rfl (CI.eon (c_X4_callsByHyper z3) ?_)
      exact s_iret dX8_round_53 rfl ⟨_, rfl, rfl, V⟩
    have c1 := c
    by_cases c : a1 = 2
    · have V := V8 c
      refine s_tableIn (v := 2) (tgt := 54) dX8_round_15 c (by decide) (by decide) (by decide) rfl rfl ?_
      refine s_aload_n (pc' := 55) (x := x2) dX8_round_54 rfl rfl ?_
      refine s_callV (pc' := 58) (av := []) (a := x2) (sk := []) (kc := 4) dX8_round_55 ml_8_286 okX4_size oiX4_size (by decide) (NF := 6) rfl z3 rfl (Nat.le_of_ble_eq_true rfl) (Nat.le_refl 0) (Nat.le_refl 0) rfl (CI.eon (c_X4_size z3) ?_)
      exact s_iret dX8_round_58 rfl ⟨_, rfl, rfl, V⟩
    have c2 := c
    by_cases c : a1 = 3
    · have V := V9 c
      refine s_tableIn (v := 3) (tgt := 59) dX8_round_15 c (by decide) (by decide) (by decide) rfl rfl ?_
      refine s_aload_n (pc' := 60) (x := x2) dX8_round_59 rfl rfl ?_
      refine s_callV (pc' := 63) (av := []) (a := x2) (sk := []) (kc := 4) dX8_round_60 ml_8_287 okX4_start oiX4_start (by decide) (NF := 6) rfl z3 rfl (Nat.le_of_ble_eq_true rfl) (Nat.le_refl 0) (Nat.le_refl 0) rfl (CI.eon (c_X4_start z3) ?_)
      exact s_iret dX8_round_63 rfl ⟨_, rfl, rfl, V⟩
    have c3 := c
    have co : a1 < 0 ∨ 3 < a1 := by omega
    have V := V10 co
    refine s_tableOut (tgt := 64) dX8_round_15 z5 co rfl ?_
    refine s_iconst (pc' := 65) dX8_round_64 rfl ?_
    exact s_iret dX8_round_65 rfl ⟨_, rfl, rfl, V⟩
  · have V := V12 c
    refine s_iconst (pc' := 13) dX8_round_12 rfl ?_
    exact s_iret dX8_round_13 rfl ⟨_, rfl, rfl, V⟩
theorem e_X8_roundAt {w : WS} {h : AH} {Q : Int → AH → Prop} {a1 : Int} (X : XI mX8_roundAt 0 [some (vR 1), some (vI a1)] [] w h Q) : CI mX8_roundAt [vR 1, vI a1] w h Q := CA.of (M := mX8_roundAt) (by decide) rfl (Nat.le_of_ble_eq_true rfl) X
set_option maxRecDepth 20000 in
theorem r_X8_roundAt_0 {w : WS} {h : AH} {Q : Int → AH → Prop} {a1 : Int} (sA : shA w) (V : CR mX8_roundMade [vR 1] w h (fun x2 h1 => (wt w x2 = 14 ∧ CI mX4_tickAt [vR x2, vI a1] w h1 (fun x5 h4 => Q x5 h4)))) : XI mX8_roundAt 0 [some (vR 1), some (vI a1)] [] w h Q := by
  refine s_aload_n (pc' := 1) (x := 1) dX8_roundAt_0 rfl rfl ?_
  refine s_callV (pc' := 4) (av := []) (a := 1) (sk := []) (kc := 8) dX8_roundAt_1 ml_8_273 okX8_roundMade oiX8_roundMade (by decide) (NF := 14) rfl (fa_t1 sA) rfl (Nat.le_of_ble_eq_true rfl) (Nat.le_refl 0) (Nat.le_refl 0) rfl (CR.on V (fun x2 h1 V => ?_))
  refine s_iload_n (pc' := 5) (x := a1) dX8_roundAt_4 rfl rfl ?_
  obtain ⟨z3, V⟩ := V
  refine s_callV (pc' := 8) (av := [vI a1]) (a := x2) (sk := []) (kc := 4) dX8_roundAt_5 ml_8_290 okX4_tickAt oiX4_tickAt (by decide) (NF := 6) rfl z3 rfl (Nat.le_of_ble_eq_true rfl) (Nat.le_refl 0) (Nat.le_refl 0) rfl (CI.on V (fun x5 h4 V => ?_))
  exact s_iret dX8_roundAt_8 rfl ⟨_, rfl, rfl, V⟩
theorem e_X8_would {w : WS} {h : AH} {Q : Int → AH → Prop} {a1 a2 a3 : Int} (X : XI mX8_would 0 [some (vR 1), some (vI a1), some (vI a2), some (vI a3)] [] w h Q) : CI mX8_would [vR 1, vI a1, vI a2, vI a3] w h Q := CA.of (M := mX8_would) (by decide) rfl (Nat.le_of_ble_eq_true rfl) X
set_option maxRecDepth 20000 in
theorem r_X8_would_0 {w : WS} {h : AH} {Q : Int → AH → Prop} {a1 a2 a3 : Int} (sA : shA w) (V : (wt w (h 1 2) = 15 ∧ inR a1 ∧ inR (h (h 1 2) 4) ∧ ((¬ (0 ≤ a1 ∧ a1 < h (h 1 2) 4) → Q (-1) h) ∧ ((0 ≤ a1 ∧ a1 < h (h 1 2) 4) → (inR a2 ∧ ((a2 < 0 → Q (-1) h) ∧ (¬ a2 < 0 → ((99 < a2 → Q (-1) h) ∧ (¬ 99 < a2 → (inR a3 ∧ ((a3 < 0 → Q (-1) h) ∧ (¬ a3 < 0 → ((a3 ≤ 3 → CI mX8_supposed [vR 1, vI a1, vI a2, vI a3] w h (fun x7 h6 => Q x7 h6)) ∧ (¬ a3 ≤ 3 → Q (-1) h)))))))))))))) : XI mX8_would 0 [some (vR 1), some (vI a1), some (vI a2), some (vI a3)] [] w h Q := by
  refine s_aload_n (pc' := 1) (x := 1) dX8_would_0 rfl rfl ?_
  refine s_get (pc' := 4) (v := vR (h 1 2)) (kc := 8) (i := 2) dX8_would_1 clX8 (by decide) fl_8_2 (fa_t1 sA) (fun _ => rfl) rfl ?_
  refine s_iload_n (pc' := 5) (x := a1) dX8_would_4 rfl rfl ?_
  obtain ⟨z1, z2, z3, V⟩ := V
  refine s_callV (pc' := 8) (av := [vI a1]) (a := (h 1 2)) (sk := []) (kc := 5) dX8_would_5 ml_8_139 okX5_hasKind oiX5_hasKind (by decide) (NF := 12) rfl z1 rfl (Nat.le_of_ble_eq_true rfl) (Nat.le_refl 0) (Nat.le_refl 0) rfl (CI.eon (c_X5_hasKind z1 z2 z3) ?_)
  obtain ⟨V16, V17⟩ := V
  refine s_ifeq_b (pc' := 11) (tgt := 30) dX8_would_8 rfl rfl (fun c => ?_) (fun c => ?_)
  · have V := V16 c
    refine s_iconst (pc' := 31) dX8_would_30 rfl ?_
    exact s_iret dX8_would_31 rfl ⟨_, rfl, rfl, V⟩
  · have V := V17 c
    refine s_iload_n (pc' := 12) (x := a2) dX8_would_11 rfl rfl ?_
    obtain ⟨z4, V⟩ := V
    obtain ⟨V14, V15⟩ := V
    refine s_if_lt (pc' := 15) (tgt := 30) dX8_would_12 rfl rfl z4 (fun c => ?_) (fun c => ?_)
    · have V := V14 c
      refine s_iconst (pc' := 31) dX8_would_30 rfl ?_
      exact s_iret dX8_would_31 rfl ⟨_, rfl, rfl, V⟩
    · have V := V15 c
      refine s_iload_n (pc' := 16) (x := a2) dX8_would_15 rfl rfl ?_
      refine s_bipush (pc' := 18) dX8_would_16 (by decide) rfl ?_
      obtain ⟨V12, V13⟩ := V
      refine s_icmp_gt (pc' := 21) (tgt := 30) dX8_would_18 rfl rfl z4 (by decide) (fun c => ?_) (fun c => ?_)
      · have V := V12 c
        refine s_iconst (pc' := 31) dX8_would_30 rfl ?_
        exact s_iret dX8_would_31 rfl ⟨_, rfl, rfl, V⟩
      · have V := V13 c
        refine s_iload_n (pc' := 22) (x := a3) dX8_would_21 rfl rfl ?_
        obtain ⟨z5, V⟩ := V
        obtain ⟨V10, V11⟩ := V
        refine s_if_lt (pc' := 25) (tgt := 30) dX8_would_22 rfl rfl z5 (fun c => ?_) (fun c => ?_)
        · have V := V10 c
          refine s_iconst (pc' := 31) dX8_would_30 rfl ?_
          exact s_iret dX8_would_31 rfl ⟨_, rfl, rfl, V⟩
        · have V := V11 c
          refine s_iload_n (pc' := 26) (x := a3) dX8_would_25 rfl rfl ?_
          refine s_iconst (pc' := 27) dX8_would_26 rfl ?_
          obtain ⟨V8, V9⟩ := V
          refine s_icmp_le (pc' := 30) (tgt := 32) dX8_would_27 rfl rfl z5 (by decide) (fun c => ?_) (fun c => ?_)
          · have V := V8 c
            refine s_aload_n (pc' := 33) (x := 1) dX8_would_32 rfl rfl ?_
            refine s_iload_n (pc' := 34) (x := a1) dX8_would_33 rfl rfl ?_
            refine s_iload_n (pc' := 35) (x := a2) dX8_would_34 rfl rfl ?_
            refine s_iload_n (pc' := 36) (x := a3) dX8_would_35 rfl rfl ?_
            refine s_callV (pc' := 39) (av := [vI a1, vI a2, vI a3]) (a := 1) (sk := []) (kc := 8) dX8_would_36 ml_8_291 okX8_supposed oiX8_supposed (by decide) (NF := 14) rfl (fa_t1 sA) rfl (Nat.le_of_ble_eq_true rfl) (Nat.le_refl 0) (Nat.le_refl 0) rfl (CI.on V (fun x7 h6 V => ?_))
            exact s_iret dX8_would_39 rfl ⟨_, rfl, rfl, V⟩
          · have V := V9 c
            refine s_iconst (pc' := 31) dX8_would_30 rfl ?_
            exact s_iret dX8_would_31 rfl ⟨_, rfl, rfl, V⟩
theorem e_X8_enough {w : WS} {h : AH} {Q : Int → AH → Prop} {a1 a2 : Int} (X : XI mX8_enough 0 [some (vR 1), some (vI a1), some (vI a2), none, none, none, none] [] w h Q) : CI mX8_enough [vR 1, vI a1, vI a2] w h Q := CA.of (M := mX8_enough) (by decide) rfl (Nat.le_of_ble_eq_true rfl) X
set_option maxRecDepth 20000 in
theorem r_X8_enough_0 {w : WS} {h : AH} {Q : Int → AH → Prop} {a1 a2 : Int} (sA : shA w) (V : (wt w (h 1 2) = 15 ∧ inR a1 ∧ inR (h (h 1 2) 4) ∧ (((0 ≤ a1 ∧ a1 < h (h 1 2) 4) → XI mX8_enough 22 [some (vR 1), some (vI a1), some (vI a2), some (vI 0), some (vI 100), some (vI 0), none] [] w h Q) ∧ (¬ (0 ≤ a1 ∧ a1 < h (h 1 2) 4) → Q (-1) h)))) : XI mX8_enough 0 [some (vR 1), some (vI a1), some (vI a2), none, none, none, none] [] w h Q := by
  refine s_aload_n (pc' := 1) (x := 1) dX8_enough_0 rfl rfl ?_
  refine s_get (pc' := 4) (v := vR (h 1 2)) (kc := 8) (i := 2) dX8_enough_1 clX8 (by decide) fl_8_2 (fa_t1 sA) (fun _ => rfl) rfl ?_
  refine s_iload_n (pc' := 5) (x := a1) dX8_enough_4 rfl rfl ?_
  obtain ⟨z1, z2, z3, V⟩ := V
  refine s_callV (pc' := 8) (av := [vI a1]) (a := (h 1 2)) (sk := []) (kc := 5) dX8_enough_5 ml_8_139 okX5_hasKind oiX5_hasKind (by decide) (NF := 12) rfl z1 rfl (Nat.le_of_ble_eq_true rfl) (Nat.le_refl 0) (Nat.le_refl 0) rfl (CI.eon (c_X5_hasKind z1 z2 z3) ?_)
  obtain ⟨V4, V5⟩ := V
  refine s_ifne_b (pc' := 11) (tgt := 13) dX8_enough_8 rfl rfl (fun c => ?_) (fun c => ?_)
  · have V := V4 c
    refine s_iconst (pc' := 14) dX8_enough_13 rfl ?_
    refine s_istore_n (pc' := 15) (ls' := [some (vR 1), some (vI a1), some (vI a2), some (vI 0), none, none, none]) dX8_enough_14 (by decide) rfl rfl ?_
    refine s_bipush (pc' := 17) dX8_enough_15 (by decide) rfl ?_
    refine s_istore (pc' := 19) (ls' := [some (vR 1), some (vI a1), some (vI a2), some (vI 0), some (vI 100), none, none]) dX8_enough_17 (by decide) rfl rfl ?_
    refine s_iconst (pc' := 20) dX8_enough_19 rfl ?_
    refine s_istore (pc' := 22) (ls' := [some (vR 1), some (vI a1), some (vI a2), some (vI 0), some (vI 100), some (vI 0), none]) dX8_enough_20 (by decide) rfl rfl ?_
    exact V
  · have V := V5 c
    refine s_iconst (pc' := 12) dX8_enough_11 rfl ?_
    exact s_iret dX8_enough_12 rfl ⟨_, rfl, rfl, V⟩
set_option maxRecDepth 20000 in
theorem r_X8_enough_22 {w : WS} {h : AH} {Q : Int → AH → Prop} {a1 a2 a3 a4 a5 : Int} (sA : shA w) (V : (inR a5 ∧ ((99 < a5 → (inR a3 ∧ ((a3 ≤ 99 → Q a3 h) ∧ (¬ a3 ≤ 99 → Q (-1) h)))) ∧ (¬ 99 < a5 → (inR a3 ∧ inR a4 ∧ ((a4 ≤ a3 → ((a3 ≤ 99 → Q a3 h) ∧ (¬ a3 ≤ 99 → Q (-1) h))) ∧ (¬ a4 ≤ a3 → ((0 ≤ (a3 + a4) ∧ (a3 + a4) ≤ 2147483647) ∧ CI mX8_supposed [vR 1, vI a1, vI ((a3 + a4) / 2), vI 0] w h (fun x11 h10 => (inR x11 ∧ inR a2 ∧ ((a2 < x11 → XI mX8_enough 22 [some (vR 1), some (vI a1), some (vI a2), some (vI (((a3 + a4) / 2) + 1)), some (vI a4), some (vI (a5 + 1)), none] [] w h10 Q) ∧ (¬ a2 < x11 → XI mX8_enough 22 [some (vR 1), some (vI a1), some (vI a2), some (vI a3), some (vI ((a3 + a4) / 2)), some (vI (a5 + 1)), none] [] w h10 Q)))))))))))) : XI mX8_enough 22 [some (vR 1), some (vI a1), some (vI a2), some (vI a3), some (vI a4), some (vI a5), none] [] w h Q := by
  refine s_iload (pc' := 24) (x := a5) dX8_enough_22 rfl rfl ?_
  refine s_bipush (pc' := 26) dX8_enough_24 (by decide) rfl ?_
  obtain ⟨z1, V⟩ := V
  obtain ⟨V18, V19⟩ := V
  refine s_icmp_gt (pc' := 29) (tgt := 73) dX8_enough_26 rfl rfl z1 (by decide) (fun c => ?_) (fun c => ?_)
  · have V := V18 c
    refine s_iload_n (pc' := 74) (x := a3) dX8_enough_73 rfl rfl ?_
    refine s_bipush (pc' := 76) dX8_enough_74 (by decide) rfl ?_
    obtain ⟨z2, V⟩ := V
    obtain ⟨V3, V4⟩ := V
    refine s_icmp_le (pc' := 79) (tgt := 83) dX8_enough_76 rfl rfl z2 (by decide) (fun c => ?_) (fun c => ?_)
    · have V := V3 c
      refine s_iload_n (pc' := 84) (x := a3) dX8_enough_83 rfl rfl ?_
      exact s_iret dX8_enough_84 rfl ⟨_, rfl, rfl, V⟩
    · have V := V4 c
      refine s_iconst (pc' := 80) dX8_enough_79 rfl ?_
      refine s_goto (tgt := 84) dX8_enough_80 rfl ?_
      exact s_iret dX8_enough_84 rfl ⟨_, rfl, rfl, V⟩
  · have V := V19 c
    refine s_iload_n (pc' := 30) (x := a3) dX8_enough_29 rfl rfl ?_
    refine s_iload (pc' := 32) (x := a4) dX8_enough_30 rfl rfl ?_
    obtain ⟨z5, z6, V⟩ := V
    obtain ⟨V16, V17⟩ := V
    refine s_icmp_ge (pc' := 35) (tgt := 73) dX8_enough_32 rfl rfl z5 z6 (fun c => ?_) (fun c => ?_)
    · have V := V16 c
      refine s_iload_n (pc' := 74) (x := a3) dX8_enough_73 rfl rfl ?_
      refine s_bipush (pc' := 76) dX8_enough_74 (by decide) rfl ?_
      obtain ⟨V7, V8⟩ := V
      refine s_icmp_le (pc' := 79) (tgt := 83) dX8_enough_76 rfl rfl z5 (by decide) (fun c => ?_) (fun c => ?_)
      · have V := V7 c
        refine s_iload_n (pc' := 84) (x := a3) dX8_enough_83 rfl rfl ?_
        exact s_iret dX8_enough_84 rfl ⟨_, rfl, rfl, V⟩
      · have V := V8 c
        refine s_iconst (pc' := 80) dX8_enough_79 rfl ?_
        refine s_goto (tgt := 84) dX8_enough_80 rfl ?_
        exact s_iret dX8_enough_84 rfl ⟨_, rfl, rfl, V⟩
    · have V := V17 c
      refine s_iload_n (pc' := 36) (x := a3) dX8_enough_35 rfl rfl ?_
      refine s_iload (pc' := 38) (x := a4) dX8_enough_36 rfl rfl ?_
      refine s_iadd (pc' := 39) dX8_enough_38 rfl ?_
      refine s_iconst (pc' := 40) dX8_enough_39 rfl ?_
      obtain ⟨z9, V⟩ := V
      refine s_idiv (pc' := 41) dX8_enough_40 z9 (by decide) rfl ?_
      refine s_istore (pc' := 43) (ls' := [some (vR 1), some (vI a1), some (vI a2), some (vI a3), some (vI a4), some (vI a5), some (vI ((a3 + a4) / 2))]) dX8_enough_41 (by decide) rfl rfl ?_
      refine s_aload_n (pc' := 44) (x := 1) dX8_enough_43 rfl rfl ?_
      refine s_iload_n (pc' := 45) (x := a1) dX8_enough_44 rfl rfl ?_
      refine s_iload (pc' := 47) (x := ((a3 + a4) / 2)) dX8_enough_45 rfl rfl ?_
      refine s_iconst (pc' := 48) dX8_enough_47 rfl ?_
      refine s_callV (pc' := 51) (av := [vI a1, vI ((a3 + a4) / 2), vI 0]) (a := 1) (sk := []) (kc := 8) dX8_enough_48 ml_8_291 okX8_supposed oiX8_supposed (by decide) (NF := 14) rfl (fa_t1 sA) rfl (Nat.le_of_ble_eq_true rfl) (Nat.le_refl 0) (Nat.le_refl 0) rfl (CI.on V (fun x11 h10 V => ?_))
      refine s_iload_n (pc' := 52) (x := a2) dX8_enough_51 rfl rfl ?_
      obtain ⟨z12, z13, V⟩ := V
      obtain ⟨V14, V15⟩ := V
      refine s_icmp_gt (pc' := 55) (tgt := 62) dX8_enough_52 rfl rfl z12 z13 (fun c => ?_) (fun c => ?_)
      · have V := V14 c
        refine s_iload (pc' := 64) (x := ((a3 + a4) / 2)) dX8_enough_62 rfl rfl ?_
        refine s_iconst (pc' := 65) dX8_enough_64 rfl ?_
        refine s_iadd (pc' := 66) dX8_enough_65 rfl ?_
        refine s_istore_n (pc' := 67) (ls' := [some (vR 1), some (vI a1), some (vI a2), some (vI (((a3 + a4) / 2) + 1)), some (vI a4), some (vI a5), some (vI ((a3 + a4) / 2))]) dX8_enough_66 (by decide) rfl rfl ?_
        refine s_iinc (pc' := 70) (ls' := [some (vR 1), some (vI a1), some (vI a2), some (vI (((a3 + a4) / 2) + 1)), some (vI a4), some (vI (a5 + 1)), some (vI ((a3 + a4) / 2))]) dX8_enough_67 rfl (by decide) rfl rfl ?_
        refine s_goto (tgt := 22) dX8_enough_70 rfl ?_
        refine s_drop 6 (ls' := [some (vR 1), some (vI a1), some (vI a2), some (vI (((a3 + a4) / 2) + 1)), some (vI a4), some (vI (a5 + 1)), none]) rfl ?_
        exact V
      · have V := V15 c
        refine s_iload (pc' := 57) (x := ((a3 + a4) / 2)) dX8_enough_55 rfl rfl ?_
        refine s_istore (pc' := 59) (ls' := [some (vR 1), some (vI a1), some (vI a2), some (vI a3), some (vI ((a3 + a4) / 2)), some (vI a5), some (vI ((a3 + a4) / 2))]) dX8_enough_57 (by decide) rfl rfl ?_
        refine s_goto (tgt := 67) dX8_enough_59 rfl ?_
        refine s_iinc (pc' := 70) (ls' := [some (vR 1), some (vI a1), some (vI a2), some (vI a3), some (vI ((a3 + a4) / 2)), some (vI (a5 + 1)), some (vI ((a3 + a4) / 2))]) dX8_enough_67 rfl (by decide) rfl rfl ?_
        refine s_goto (tgt := 22) dX8_enough_70 rfl ?_
        refine s_drop 6 (ls' := [some (vR 1), some (vI a1), some (vI a2), some (vI a3), some (vI ((a3 + a4) / 2)), some (vI (a5 + 1)), none]) rfl ?_
        exact V
