/-! ===== WakeSaver$Reader ===== -/
theorem CI.hon {M N : MI} {pc' : Nat} {ls : List (Option AV)} {sk av : List AV} {w : WS} {h h1 : AH} {y : Int} {Q' : Option AV → WS → AH → Prop} (c : CI N av w h (fun x h' => x = y ∧ h' = h1)) (f : XA M pc' ls (vI y :: sk) w h1 0 0 Q') : CA N av w h 0 0 (fun r w' h' => XA M pc' ls (r.toList ++ sk) w' h' (0 - 0) (0 - 0) Q') := CI.on c (by rintro x h' ⟨rfl, rfl⟩; exact f)
theorem e_X3_tape {w : WS} {h : AH} {Q : Int → AH → Prop} (X : XR mX3_tape 0 [some (vR 2)] [] w h Q) : CR mX3_tape [vR 2] w h Q := CA.of (M := mX3_tape) (by decide) rfl (Nat.le_of_ble_eq_true rfl) X
set_option maxRecDepth 20000 in
theorem r_X3_tape_0 {w : WS} {h : AH} {Q : Int → AH → Prop} (sA : shA w) (V : Q 3 h) : XR mX3_tape 0 [some (vR 2)] [] w h Q := by
  refine s_aload_n (pc' := 1) (x := 2) dX3_tape_0 rfl rfl ?_
  refine s_getF (pc' := 4) (b := 3) (kc := 3) (i := 0) dX3_tape_1 clX3 (by decide) fl_3_0 (fa_t2 sA) (fa_f3_0 sA) (fun _ => rfl) rfl ?_
  exact s_aret dX3_tape_4 rfl ⟨_, rfl⟩ ⟨_, rfl, rfl, V⟩
theorem e_X3_latestFault {w : WS} {h : AH} {Q : Int → AH → Prop} (X : XI mX3_latestFault 0 [some (vR 2)] [] w h Q) : CI mX3_latestFault [vR 2] w h Q := CA.of (M := mX3_latestFault) (by decide) rfl (Nat.le_of_ble_eq_true rfl) X
set_option maxRecDepth 20000 in
theorem r_X3_latestFault_0 {w : WS} {h : AH} {Q : Int → AH → Prop} (sA : shA w) (V : Q (h 2 1) h) : XI mX3_latestFault 0 [some (vR 2)] [] w h Q := by
  refine s_aload_n (pc' := 1) (x := 2) dX3_latestFault_0 rfl rfl ?_
  refine s_get (pc' := 4) (v := vI (h 2 1)) (kc := 3) (i := 1) dX3_latestFault_1 clX3 (by decide) fl_3_1 (fa_t2 sA) (fun _ => rfl) rfl ?_
  exact s_iret dX3_latestFault_4 rfl ⟨_, rfl, rfl, V⟩
theorem e_X3_faultPlace {w : WS} {h : AH} {Q : Int → AH → Prop} (X : XI mX3_faultPlace 0 [some (vR 2)] [] w h Q) : CI mX3_faultPlace [vR 2] w h Q := CA.of (M := mX3_faultPlace) (by decide) rfl (Nat.le_of_ble_eq_true rfl) X
set_option maxRecDepth 20000 in
theorem r_X3_faultPlace_0 {w : WS} {h : AH} {Q : Int → AH → Prop} (sA : shA w) (V : Q (h 2 2) h) : XI mX3_faultPlace 0 [some (vR 2)] [] w h Q := by
  refine s_aload_n (pc' := 1) (x := 2) dX3_faultPlace_0 rfl rfl ?_
  refine s_get (pc' := 4) (v := vI (h 2 2)) (kc := 3) (i := 2) dX3_faultPlace_1 clX3 (by decide) fl_3_2 (fa_t2 sA) (fun _ => rfl) rfl ?_
  exact s_iret dX3_faultPlace_4 rfl ⟨_, rfl, rfl, V⟩
theorem e_X3_fails {w : WS} {h : AH} {Q : Int → AH → Prop} {a1 : Int} (X : XI mX3_fails 0 [some (vR 2), some (vI a1)] [] w h Q) : CI mX3_fails [vR 2, vI a1] w h Q := CA.of (M := mX3_fails) (by decide) rfl (Nat.le_of_ble_eq_true rfl) X
set_option maxRecDepth 20000 in
theorem r_X3_fails_0 {w : WS} {h : AH} {Q : Int → AH → Prop} {a1 : Int} (sA : shA w) (V : (∀ h1, h1 = st h 2 1 a1 → (∀ h3, h3 = st h1 2 2 (h1 3 2) → Q 0 h3))) : XI mX3_fails 0 [some (vR 2), some (vI a1)] [] w h Q := by
  refine s_aload_n (pc' := 1) (x := 2) dX3_fails_0 rfl rfl ?_
  refine s_iload_n (pc' := 2) (x := a1) dX3_fails_1 rfl rfl ?_
  refine s_put (pc' := 5) (v := vI a1) (x := a1) (kc := 3) (i := 1) dX3_fails_2 clX3 (by decide) fl_3_1 rfl (fa_t2 sA) (fun E => nar_int E _) (fun _ _ => rfl) (j0 := 1) rfl rfl ?_
  obtain ⟨h1, e2⟩ : ∃ q, q = st h 2 1 a1 := ⟨_, rfl⟩
  rw [← e2]
  have V := V h1 e2
  refine s_aload_n (pc' := 6) (x := 2) dX3_fails_5 rfl rfl ?_
  refine s_aload_n (pc' := 7) (x := 2) dX3_fails_6 rfl rfl ?_
  refine s_getF (pc' := 10) (b := 3) (kc := 3) (i := 0) dX3_fails_7 clX3 (by decide) fl_3_0 (fa_t2 sA) (fa_f3_0 sA) (fun _ => rfl) rfl ?_
  refine s_callV (pc' := 13) (av := []) (a := 3) (sk := [vR 2]) (kc := 6) dX3_fails_10 ml_3_48 okX6_start oiX6_start (by decide) (NF := 6) rfl (fa_tape sA).1 rfl (Nat.le_of_ble_eq_true rfl) (Nat.le_refl 0) (Nat.le_refl 0) rfl (CI.eon (c_X6_start (fa_tape sA).1) ?_)
  refine s_put (pc' := 16) (v := vI (h1 3 2)) (x := (h1 3 2)) (kc := 3) (i := 2) dX3_fails_13 clX3 (by decide) fl_3_2 rfl (fa_t2 sA) (fun E => nar_int E _) (fun _ _ => rfl) (j0 := 2) rfl rfl ?_
  obtain ⟨h3, e4⟩ : ∃ q, q = st h1 2 2 (h1 3 2) := ⟨_, rfl⟩
  rw [← e4]
  have V := V h3 e4
  refine s_iconst (pc' := 17) dX3_fails_16 rfl ?_
  exact s_zret dX3_fails_17 rfl (by decide) ⟨_, rfl, rfl, V⟩
theorem e_X3_atName {w : WS} {h : AH} {Q : Int → AH → Prop} (X : XI mX3_atName 0 [some (vR 2)] [] w h Q) : CI mX3_atName [vR 2] w h Q := CA.of (M := mX3_atName) (by decide) rfl (Nat.le_of_ble_eq_true rfl) X
set_option maxRecDepth 20000 in
theorem r_X3_atName_0 {w : WS} {h : AH} {Q : Int → AH → Prop} (sA : shA w) (V : (inR (h 3 4) ∧ (((h 3 4) = 3 → (inR (h 3 5) ∧ ((((h 3 5) = 486 ∨ (h 3 5) = 505957 ∨ (h 3 5) = 643129 ∨ (h 3 5) = 3540595 ∨ (h 3 5) = 5969497 ∨ (h 3 5) = 17376357 ∨ (h 3 5) = 20317291 ∨ (h 3 5) = 408362632 ∨ (h 3 5) = 777297172) → Q 0 h) ∧ ((¬ (h 3 5) = 486 ∧ ¬ (h 3 5) = 505957 ∧ ¬ (h 3 5) = 643129 ∧ ¬ (h 3 5) = 3540595 ∧ ¬ (h 3 5) = 5969497 ∧ ¬ (h 3 5) = 17376357 ∧ ¬ (h 3 5) = 20317291 ∧ ¬ (h 3 5) = 408362632 ∧ ¬ (h 3 5) = 777297172) → Q 1 h)))) ∧ (¬ (h 3 4) = 3 → Q 0 h)))) : XI mX3_atName 0 [some (vR 2)] [] w h Q := by
  refine s_aload_n (pc' := 1) (x := 2) dX3_atName_0 rfl rfl ?_
  refine s_getF (pc' := 4) (b := 3) (kc := 3) (i := 0) dX3_atName_1 clX3 (by decide) fl_3_0 (fa_t2 sA) (fa_f3_0 sA) (fun _ => rfl) rfl ?_
  refine s_callV (pc' := 7) (av := []) (a := 3) (sk := []) (kc := 6) dX3_atName_4 ml_3_33 okX6_type oiX6_type (by decide) (NF := 6) rfl (fa_tape sA).1 rfl (Nat.le_of_ble_eq_true rfl) (Nat.le_refl 0) (Nat.le_refl 0) rfl (CI.eon (c_X6_type (fa_tape sA).1) ?_)
  refine s_iconst (pc' := 8) dX3_atName_7 rfl ?_
  obtain ⟨z1, V⟩ := V
  obtain ⟨V5, V6⟩ := V
  refine s_icmp_eq (pc' := 11) (tgt := 13) dX3_atName_8 rfl rfl z1 (by decide) (fun c => ?_) (fun c => ?_)
  · have V := V5 c
    refine s_aload_n (pc' := 14) (x := 2) dX3_atName_13 rfl rfl ?_
    refine s_getF (pc' := 17) (b := 3) (kc := 3) (i := 0) dX3_atName_14 clX3 (by decide) fl_3_0 (fa_t2 sA) (fa_f3_0 sA) (fun _ => rfl) rfl ?_
    refine s_callV (pc' := 20) (av := []) (a := 3) (sk := []) (kc := 6) dX3_atName_17 ml_3_51 okX6_value oiX6_value (by decide) (NF := 6) rfl (fa_tape sA).1 rfl (Nat.le_of_ble_eq_true rfl) (Nat.le_refl 0) (Nat.le_refl 0) rfl (CI.eon (c_X6_value (fa_tape sA).1) ?_)
    obtain ⟨z2, V⟩ := V
    obtain ⟨V3, V4⟩ := V
    by_cases c : (h 3 5) = 486 ∨ (h 3 5) = 505957 ∨ (h 3 5) = 643129 ∨ (h 3 5) = 3540595 ∨ (h 3 5) = 5969497 ∨ (h 3 5) = 17376357 ∨ (h 3 5) = 20317291 ∨ (h 3 5) = 408362632 ∨ (h 3 5) = 777297172
    · have V := V3 c
      refine s_lookup (off := 84) (tgt := 104) dX3_atName_20 (by decide) z2 (by rcases c with c | c | c | c | c | c | c | c | c <;> (rw [c]; decide)) rfl ?_
      refine s_iconst (pc' := 105) dX3_atName_104 rfl ?_
      exact s_zret dX3_atName_105 rfl (by decide) ⟨_, rfl, rfl, V⟩
    have c0 := c
    have co : ¬ (h 3 5) = 486 ∧ ¬ (h 3 5) = 505957 ∧ ¬ (h 3 5) = 643129 ∧ ¬ (h 3 5) = 3540595 ∧ ¬ (h 3 5) = 5969497 ∧ ¬ (h 3 5) = 17376357 ∧ ¬ (h 3 5) = 20317291 ∧ ¬ (h 3 5) = 408362632 ∧ ¬ (h 3 5) = 777297172 := by omega
    have V := V4 co
    refine s_lookup (off := 86) (tgt := 106) dX3_atName_20 (by decide) z2 (by simp only [Op.lookupswitch.offset_cons, Op.lookupswitch.offset_nil]; rw [if_neg (by omega), if_neg (by omega), if_neg (by omega), if_neg (by omega), if_neg (by omega), if_neg (by omega), if_neg (by omega), if_neg (by omega), if_neg (by omega)]) rfl ?_
    refine s_iconst (pc' := 107) dX3_atName_106 rfl ?_
    exact s_zret dX3_atName_107 rfl (by decide) ⟨_, rfl, rfl, V⟩
  · have V := V6 c
    refine s_iconst (pc' := 12) dX3_atName_11 rfl ?_
    exact s_zret dX3_atName_12 rfl (by decide) ⟨_, rfl, rfl, V⟩
abbrev isQw (v : Int) : Prop := v = 486 ∨ v = 505957 ∨ v = 643129 ∨ v = 3540595 ∨ v = 5969497 ∨ v = 17376357 ∨ v = 20317291 ∨ v = 408362632 ∨ v = 777297172
def failH (h : AH) (y : Int) : AH := st (st h 2 1 y) 2 2 (h 3 2)
section
variable {w : WS} {h : AH} {k : Int}
theorem c_X3_tape (sA : shA w) : CR mX3_tape [vR 2] w h (fun x h' => x = 3 ∧ h' = h) := e_X3_tape (r_X3_tape_0 sA ⟨rfl, rfl⟩)
theorem c_X3_latestFault (sA : shA w) : CI mX3_latestFault [vR 2] w h (fun x h' => x = h 2 1 ∧ h' = h) := e_X3_latestFault (r_X3_latestFault_0 sA ⟨rfl, rfl⟩)
theorem c_X3_faultPlace (sA : shA w) : CI mX3_faultPlace [vR 2] w h (fun x h' => x = h 2 2 ∧ h' = h) := e_X3_faultPlace (r_X3_faultPlace_0 sA ⟨rfl, rfl⟩)
theorem c_X3_fails (sA : shA w) : CI mX3_fails [vR 2, vI k] w h (fun x h' => x = 0 ∧ h' = failH h k) := by
  refine e_X3_fails (r_X3_fails_0 sA fun h1 e1 h3 e3 => ⟨rfl, ?_⟩)
  rw [e3, e1, failH, st_cell _ _ _ _ (by decide)]
theorem c_X3_atName (sA : shA w) (ht : inR (h 3 4)) (hv : h 3 4 = 3 → inR (h 3 5)) : CI mX3_atName [vR 2] w h (fun x h' => x = (if h 3 4 = 3 ∧ ¬ isQw (h 3 5) then 1 else 0) ∧ h' = h) := by
  refine e_X3_atName (r_X3_atName_0 sA ⟨ht, fun c => ⟨hv c, fun c2 => ⟨?_, rfl⟩, fun c2 => ⟨?_, rfl⟩⟩, fun c => ⟨?_, rfl⟩⟩)
  · rw [if_neg (fun q => q.2 c2)]
  · rw [if_pos ⟨c, fun q => by unfold isQw at q; omega⟩]
  · rw [if_neg (fun q => c q.1)]
end
theorem e_X3_takeNumber {w : WS} {h : AH} {Q : Int → AH → Prop} {a1 a2 : Int} (X : XI mX3_takeNumber 0 [some (vR 2), some (vI a1), some (vI a2), none] [] w h Q) : CI mX3_takeNumber [vR 2, vI a1, vI a2] w h Q := CA.of (M := mX3_takeNumber) (by decide) rfl (Nat.le_of_ble_eq_true rfl) X
set_option maxRecDepth 20000 in
theorem r_X3_takeNumber_0 {w : WS} {h : AH} {Q : Int → AH → Prop} {a1 a2 : Int} (sA : shA w) (V : (inR (h 2 1) ∧ (((h 2 1) = 0 → (inR (h 3 4) ∧ (((h 3 4) = 4 → (inR (h 3 5) ∧ inR a1 ∧ (((h 3 5) < a1 → (∀ h5, h5 = failH h (3 : Int) → Q (-1) h5)) ∧ (¬ (h 3 5) < a1 → (inR a2 ∧ (((h 3 5) ≤ a2 → CV mX6_advance [vR 3] w h (fun h8 => Q (h 3 5) h8)) ∧ (¬ (h 3 5) ≤ a2 → (∀ h9, h9 = failH h (3 : Int) → Q (-1) h9)))))))) ∧ (¬ (h 3 4) = 4 → (∀ h15, h15 = failH h (1 : Int) → Q (-1) h15))))) ∧ (¬ (h 2 1) = 0 → Q (-1) h)))) : XI mX3_takeNumber 0 [some (vR 2), some (vI a1), some (vI a2), none] [] w h Q := by
  refine s_aload_n (pc' := 1) (x := 2) dX3_takeNumber_0 rfl rfl ?_
  refine s_get (pc' := 4) (v := vI (h 2 1)) (kc := 3) (i := 1) dX3_takeNumber_1 clX3 (by decide) fl_3_1 (fa_t2 sA) (fun _ => rfl) rfl ?_
  obtain ⟨z1, V⟩ := V
  obtain ⟨V19, V20⟩ := V
  refine s_if_eq (pc' := 7) (tgt := 9) dX3_takeNumber_4 rfl rfl z1 (fun c => ?_) (fun c => ?_)
  · have V := V19 c
    refine s_aload_n (pc' := 10) (x := 2) dX3_takeNumber_9 rfl rfl ?_
    refine s_getF (pc' := 13) (b := 3) (kc := 3) (i := 0) dX3_takeNumber_10 clX3 (by decide) fl_3_0 (fa_t2 sA) (fa_f3_0 sA) (fun _ => rfl) rfl ?_
    refine s_callV (pc' := 16) (av := []) (a := 3) (sk := []) (kc := 6) dX3_takeNumber_13 ml_3_51 okX6_value oiX6_value (by decide) (NF := 6) rfl (fa_tape sA).1 rfl (Nat.le_of_ble_eq_true rfl) (Nat.le_refl 0) (Nat.le_refl 0) rfl (CI.eon (c_X6_value (fa_tape sA).1) ?_)
    refine s_istore_n (pc' := 17) (ls' := [some (vR 2), some (vI a1), some (vI a2), some (vI (h 3 5))]) dX3_takeNumber_16 (by decide) rfl rfl ?_
    refine s_aload_n (pc' := 18) (x := 2) dX3_takeNumber_17 rfl rfl ?_
    refine s_getF (pc' := 21) (b := 3) (kc := 3) (i := 0) dX3_takeNumber_18 clX3 (by decide) fl_3_0 (fa_t2 sA) (fa_f3_0 sA) (fun _ => rfl) rfl ?_
    refine s_callV (pc' := 24) (av := []) (a := 3) (sk := []) (kc := 6) dX3_takeNumber_21 ml_3_33 okX6_type oiX6_type (by decide) (NF := 6) rfl (fa_tape sA).1 rfl (Nat.le_of_ble_eq_true rfl) (Nat.le_refl 0) (Nat.le_refl 0) rfl (CI.eon (c_X6_type (fa_tape sA).1) ?_)
    refine s_iconst (pc' := 25) dX3_takeNumber_24 rfl ?_
    obtain ⟨z2, V⟩ := V
    obtain ⟨V17, V18⟩ := V
    refine s_icmp_eq (pc' := 28) (tgt := 36) dX3_takeNumber_25 rfl rfl z2 (by decide) (fun c => ?_) (fun c => ?_)
    · have V := V17 c
      refine s_iload_n (pc' := 37) (x := (h 3 5)) dX3_takeNumber_36 rfl rfl ?_
      refine s_iload_n (pc' := 38) (x := a1) dX3_takeNumber_37 rfl rfl ?_
      obtain ⟨z3, z4, V⟩ := V
      obtain ⟨V13, V14⟩ := V
      refine s_icmp_lt (pc' := 41) (tgt := 46) dX3_takeNumber_38 rfl rfl z3 z4 (fun c => ?_) (fun c => ?_)
      · have V := V13 c
        refine s_aload_n (pc' := 47) (x := 2) dX3_takeNumber_46 rfl rfl ?_
        refine s_iconst (pc' := 48) dX3_takeNumber_47 rfl ?_
        refine s_callV (pc' := 51) (av := [vI 3]) (a := 2) (sk := []) (kc := 3) dX3_takeNumber_48 ml_3_44 okX3_fails oiX3_fails (by decide) (NF := 3) rfl (fa_t2 sA) rfl (Nat.le_of_ble_eq_true rfl) (Nat.le_refl 0) (Nat.le_refl 0) rfl (CI.hon (c_X3_fails sA) ?_)
        obtain ⟨h5, e6⟩ : ∃ q, q = failH h (3 : Int) := ⟨_, rfl⟩
        rw [← e6]
        have V := V h5 e6
        refine s_pop (pc' := 52) dX3_takeNumber_51 (by intro _ q; cases q) rfl ?_
        refine s_iconst (pc' := 53) dX3_takeNumber_52 rfl ?_
        exact s_iret dX3_takeNumber_53 rfl ⟨_, rfl, rfl, V⟩
      · have V := V14 c
        refine s_iload_n (pc' := 42) (x := (h 3 5)) dX3_takeNumber_41 rfl rfl ?_
        refine s_iload_n (pc' := 43) (x := a2) dX3_takeNumber_42 rfl rfl ?_
        obtain ⟨z7, V⟩ := V
        obtain ⟨V11, V12⟩ := V
        refine s_icmp_le (pc' := 46) (tgt := 54) dX3_takeNumber_43 rfl rfl z3 z7 (fun c => ?_) (fun c => ?_)
        · have V := V11 c
          refine s_aload_n (pc' := 55) (x := 2) dX3_takeNumber_54 rfl rfl ?_
          refine s_getF (pc' := 58) (b := 3) (kc := 3) (i := 0) dX3_takeNumber_55 clX3 (by decide) fl_3_0 (fa_t2 sA) (fa_f3_0 sA) (fun _ => rfl) rfl ?_
          refine s_callV (pc' := 61) (av := []) (a := 3) (sk := []) (kc := 6) dX3_takeNumber_58 ml_3_69 okX6_advance oiX6_advance (by decide) (NF := 6) rfl (fa_tape sA).1 rfl (Nat.le_of_ble_eq_true rfl) (Nat.le_refl 0) (Nat.le_refl 0) rfl (CV.on V (fun h8 V => ?_))
          refine s_iload_n (pc' := 62) (x := (h 3 5)) dX3_takeNumber_61 rfl rfl ?_
          exact s_iret dX3_takeNumber_62 rfl ⟨_, rfl, rfl, V⟩
        · have V := V12 c
          refine s_aload_n (pc' := 47) (x := 2) dX3_takeNumber_46 rfl rfl ?_
          refine s_iconst (pc' := 48) dX3_takeNumber_47 rfl ?_
          refine s_callV (pc' := 51) (av := [vI 3]) (a := 2) (sk := []) (kc := 3) dX3_takeNumber_48 ml_3_44 okX3_fails oiX3_fails (by decide) (NF := 3) rfl (fa_t2 sA) rfl (Nat.le_of_ble_eq_true rfl) (Nat.le_refl 0) (Nat.le_refl 0) rfl (CI.hon (c_X3_fails sA) ?_)
          obtain ⟨h9, e10⟩ : ∃ q, q = failH h (3 : Int) := ⟨_, rfl⟩
          rw [← e10]
          have V := V h9 e10
          refine s_pop (pc' := 52) dX3_takeNumber_51 (by intro _ q; cases q) rfl ?_
          refine s_iconst (pc' := 53) dX3_takeNumber_52 rfl ?_
          exact s_iret dX3_takeNumber_53 rfl ⟨_, rfl, rfl, V⟩
    · have V := V18 c
      refine s_aload_n (pc' := 29) (x := 2) dX3_takeNumber_28 rfl rfl ?_
      refine s_iconst (pc' := 30) dX3_takeNumber_29 rfl ?_
      refine s_callV (pc' := 33) (av := [vI 1]) (a := 2) (sk := []) (kc := 3) dX3_takeNumber_30 ml_3_44 okX3_fails oiX3_fails (by decide) (NF := 3) rfl (fa_t2 sA) rfl (Nat.le_of_ble_eq_true rfl) (Nat.le_refl 0) (Nat.le_refl 0) rfl (CI.hon (c_X3_fails sA) ?_)
      obtain ⟨h15, e16⟩ : ∃ q, q = failH h (1 : Int) := ⟨_, rfl⟩
      rw [← e16]
      have V := V h15 e16
      refine s_pop (pc' := 34) dX3_takeNumber_33 (by intro _ q; cases q) rfl ?_
      refine s_iconst (pc' := 35) dX3_takeNumber_34 rfl ?_
      exact s_iret dX3_takeNumber_35 rfl ⟨_, rfl, rfl, V⟩
  · have V := V20 c
    refine s_iconst (pc' := 8) dX3_takeNumber_7 rfl ?_
    exact s_iret dX3_takeNumber_8 rfl ⟨_, rfl, rfl, V⟩
theorem e_X3_takeKind {w : WS} {h : AH} {Q : Int → AH → Prop} {a1 : Int} (X : XI mX3_takeKind 0 [some (vR 2), some (vR a1), none] [] w h Q) : CI mX3_takeKind [vR 2, vR a1] w h Q := CA.of (M := mX3_takeKind) (by decide) rfl (Nat.le_of_ble_eq_true rfl) X
set_option maxRecDepth 20000 in
theorem r_X3_takeKind_0 {w : WS} {h : AH} {Q : Int → AH → Prop} {a1 : Int} (sA : shA w) (V : CV mX6_advance [vR 3] w h (fun h1 => (inR (h1 3 4) ∧ (h1 3 4 = 3 → inR (h1 3 5)) ∧ (((h1 3 4 = 3 ∧ ¬ isQw (h1 3 5)) → (wt w a1 = 15 ∧ CI mX5_kindNamed [vR a1, vI (h1 3 5)] w h1 (fun x6 h5 => (inR x6 ∧ ((¬ x6 = (-1) → CV mX6_advance [vR 3] w h5 (fun h8 => Q x6 h8)) ∧ (x6 = (-1) → (∀ h9, h9 = failH h5 (2 : Int) → Q (-1) h9))))))) ∧ (¬ (h1 3 4 = 3 ∧ ¬ isQw (h1 3 5)) → (∀ h13, h13 = failH h1 (1 : Int) → Q (-1) h13)))))) : XI mX3_takeKind 0 [some (vR 2), some (vR a1), none] [] w h Q := by
  refine s_aload_n (pc' := 1) (x := 2) dX3_takeKind_0 rfl rfl ?_
  refine s_getF (pc' := 4) (b := 3) (kc := 3) (i := 0) dX3_takeKind_1 clX3 (by decide) fl_3_0 (fa_t2 sA) (fa_f3_0 sA) (fun _ => rfl) rfl ?_
  refine s_callV (pc' := 7) (av := []) (a := 3) (sk := []) (kc := 6) dX3_takeKind_4 ml_3_69 okX6_advance oiX6_advance (by decide) (NF := 6) rfl (fa_tape sA).1 rfl (Nat.le_of_ble_eq_true rfl) (Nat.le_refl 0) (Nat.le_refl 0) rfl (CV.on V (fun h1 V => ?_))
  refine s_aload_n (pc' := 8) (x := 2) dX3_takeKind_7 rfl rfl ?_
  obtain ⟨z2, z3, V⟩ := V
  refine s_callV (pc' := 11) (av := []) (a := 2) (sk := []) (kc := 3) dX3_takeKind_8 ml_3_75 okX3_atName oiX3_atName (by decide) (NF := 3) rfl (fa_t2 sA) rfl (Nat.le_of_ble_eq_true rfl) (Nat.le_refl 0) (Nat.le_refl 0) rfl (CI.eon (c_X3_atName sA z2 z3) ?_)
  obtain ⟨V15, V16⟩ := V
  refine s_ifne_b (pc' := 14) (tgt := 22) dX3_takeKind_11 rfl rfl (fun c => ?_) (fun c => ?_)
  · have V := V15 c
    refine s_aload_n (pc' := 23) (x := a1) dX3_takeKind_22 rfl rfl ?_
    refine s_aload_n (pc' := 24) (x := 2) dX3_takeKind_23 rfl rfl ?_
    refine s_getF (pc' := 27) (b := 3) (kc := 3) (i := 0) dX3_takeKind_24 clX3 (by decide) fl_3_0 (fa_t2 sA) (fa_f3_0 sA) (fun _ => rfl) rfl ?_
    refine s_callV (pc' := 30) (av := []) (a := 3) (sk := [vR a1]) (kc := 6) dX3_takeKind_27 ml_3_51 okX6_value oiX6_value (by decide) (NF := 6) rfl (fa_tape sA).1 rfl (Nat.le_of_ble_eq_true rfl) (Nat.le_refl 0) (Nat.le_refl 0) rfl (CI.eon (c_X6_value (fa_tape sA).1) ?_)
    obtain ⟨z4, V⟩ := V
    refine s_callV (pc' := 33) (av := [vI (h1 3 5)]) (a := a1) (sk := []) (kc := 5) dX3_takeKind_30 ml_3_78 okX5_kindNamed oiX5_kindNamed (by decide) (NF := 12) rfl z4 rfl (Nat.le_of_ble_eq_true rfl) (Nat.le_refl 0) (Nat.le_refl 0) rfl (CI.on V (fun x6 h5 V => ?_))
    refine s_istore_n (pc' := 34) (ls' := [some (vR 2), some (vR a1), some (vI x6)]) dX3_takeKind_33 (by decide) rfl rfl ?_
    refine s_iload_n (pc' := 35) (x := x6) dX3_takeKind_34 rfl rfl ?_
    refine s_iconst (pc' := 36) dX3_takeKind_35 rfl ?_
    obtain ⟨z7, V⟩ := V
    obtain ⟨V11, V12⟩ := V
    refine s_icmp_ne (pc' := 39) (tgt := 47) dX3_takeKind_36 rfl rfl z7 (by decide) (fun c => ?_) (fun c => ?_)
    · have V := V11 c
      refine s_aload_n (pc' := 48) (x := 2) dX3_takeKind_47 rfl rfl ?_
      refine s_getF (pc' := 51) (b := 3) (kc := 3) (i := 0) dX3_takeKind_48 clX3 (by decide) fl_3_0 (fa_t2 sA) (fa_f3_0 sA) (fun _ => rfl) rfl ?_
      refine s_callV (pc' := 54) (av := []) (a := 3) (sk := []) (kc := 6) dX3_takeKind_51 ml_3_69 okX6_advance oiX6_advance (by decide) (NF := 6) rfl (fa_tape sA).1 rfl (Nat.le_of_ble_eq_true rfl) (Nat.le_refl 0) (Nat.le_refl 0) rfl (CV.on V (fun h8 V => ?_))
      refine s_iload_n (pc' := 55) (x := x6) dX3_takeKind_54 rfl rfl ?_
      exact s_iret dX3_takeKind_55 rfl ⟨_, rfl, rfl, V⟩
    · have V := V12 c
      refine s_aload_n (pc' := 40) (x := 2) dX3_takeKind_39 rfl rfl ?_
      refine s_iconst (pc' := 41) dX3_takeKind_40 rfl ?_
      refine s_callV (pc' := 44) (av := [vI 2]) (a := 2) (sk := []) (kc := 3) dX3_takeKind_41 ml_3_44 okX3_fails oiX3_fails (by decide) (NF := 3) rfl (fa_t2 sA) rfl (Nat.le_of_ble_eq_true rfl) (Nat.le_refl 0) (Nat.le_refl 0) rfl (CI.hon (c_X3_fails sA) ?_)
      obtain ⟨h9, e10⟩ : ∃ q, q = failH h5 (2 : Int) := ⟨_, rfl⟩
      rw [← e10]
      have V := V h9 e10
      refine s_pop (pc' := 45) dX3_takeKind_44 (by intro _ q; cases q) rfl ?_
      refine s_iconst (pc' := 46) dX3_takeKind_45 rfl ?_
      exact s_iret dX3_takeKind_46 rfl ⟨_, rfl, rfl, V⟩
  · have V := V16 c
    refine s_aload_n (pc' := 15) (x := 2) dX3_takeKind_14 rfl rfl ?_
    refine s_iconst (pc' := 16) dX3_takeKind_15 rfl ?_
    refine s_callV (pc' := 19) (av := [vI 1]) (a := 2) (sk := []) (kc := 3) dX3_takeKind_16 ml_3_44 okX3_fails oiX3_fails (by decide) (NF := 3) rfl (fa_t2 sA) rfl (Nat.le_of_ble_eq_true rfl) (Nat.le_refl 0) (Nat.le_refl 0) rfl (CI.hon (c_X3_fails sA) ?_)
    obtain ⟨h13, e14⟩ : ∃ q, q = failH h1 (1 : Int) := ⟨_, rfl⟩
    rw [← e14]
    have V := V h13 e14
    refine s_pop (pc' := 20) dX3_takeKind_19 (by intro _ q; cases q) rfl ?_
    refine s_iconst (pc' := 21) dX3_takeKind_20 rfl ?_
    exact s_iret dX3_takeKind_21 rfl ⟨_, rfl, rfl, V⟩
theorem e_X3_closes {w : WS} {h : AH} {Q : Int → AH → Prop} (X : XI mX3_closes 0 [some (vR 2)] [] w h Q) : CI mX3_closes [vR 2] w h Q := CA.of (M := mX3_closes) (by decide) rfl (Nat.le_of_ble_eq_true rfl) X
set_option maxRecDepth 20000 in
theorem r_X3_closes_0 {w : WS} {h : AH} {Q : Int → AH → Prop} (sA : shA w) (V : (inR (h 3 4) ∧ (((h 3 4) = 5 → CV mX6_advance [vR 3] w h (fun h2 => Q 1 h2)) ∧ (¬ (h 3 4) = 5 → (∀ h3, h3 = failH h (1 : Int) → Q (0 : Int) h3))))) : XI mX3_closes 0 [some (vR 2)] [] w h Q := by
  refine s_aload_n (pc' := 1) (x := 2) dX3_closes_0 rfl rfl ?_
  refine s_getF (pc' := 4) (b := 3) (kc := 3) (i := 0) dX3_closes_1 clX3 (by decide) fl_3_0 (fa_t2 sA) (fa_f3_0 sA) (fun _ => rfl) rfl ?_
  refine s_callV (pc' := 7) (av := []) (a := 3) (sk := []) (kc := 6) dX3_closes_4 ml_3_33 okX6_type oiX6_type (by decide) (NF := 6) rfl (fa_tape sA).1 rfl (Nat.le_of_ble_eq_true rfl) (Nat.le_refl 0) (Nat.le_refl 0) rfl (CI.eon (c_X6_type (fa_tape sA).1) ?_)
  refine s_iconst (pc' := 8) dX3_closes_7 rfl ?_
  obtain ⟨z1, V⟩ := V
  obtain ⟨V5, V6⟩ := V
  refine s_icmp_eq (pc' := 11) (tgt := 17) dX3_closes_8 rfl rfl z1 (by decide) (fun c => ?_) (fun c => ?_)
  · have V := V5 c
    refine s_aload_n (pc' := 18) (x := 2) dX3_closes_17 rfl rfl ?_
    refine s_getF (pc' := 21) (b := 3) (kc := 3) (i := 0) dX3_closes_18 clX3 (by decide) fl_3_0 (fa_t2 sA) (fa_f3_0 sA) (fun _ => rfl) rfl ?_
    refine s_callV (pc' := 24) (av := []) (a := 3) (sk := []) (kc := 6) dX3_closes_21 ml_3_69 okX6_advance oiX6_advance (by decide) (NF := 6) rfl (fa_tape sA).1 rfl (Nat.le_of_ble_eq_true rfl) (Nat.le_refl 0) (Nat.le_refl 0) rfl (CV.on V (fun h2 V => ?_))
    refine s_iconst (pc' := 25) dX3_closes_24 rfl ?_
    exact s_zret dX3_closes_25 rfl (by decide) ⟨_, rfl, rfl, V⟩
  · have V := V6 c
    refine s_aload_n (pc' := 12) (x := 2) dX3_closes_11 rfl rfl ?_
    refine s_iconst (pc' := 13) dX3_closes_12 rfl ?_
    refine s_callV (pc' := 16) (av := [vI 1]) (a := 2) (sk := []) (kc := 3) dX3_closes_13 ml_3_44 okX3_fails oiX3_fails (by decide) (NF := 3) rfl (fa_t2 sA) rfl (Nat.le_of_ble_eq_true rfl) (Nat.le_refl 0) (Nat.le_refl 0) rfl (CI.hon (c_X3_fails sA) ?_)
    obtain ⟨h3, e4⟩ : ∃ q, q = failH h (1 : Int) := ⟨_, rfl⟩
    rw [← e4]
    have V := V h3 e4
    exact s_zret dX3_closes_16 rfl (by decide) ⟨_, rfl, rfl, V⟩
theorem e_X3_settingLine {w : WS} {h : AH} {Q : Int → AH → Prop} {a1 a2 : Int} (X : XI mX3_settingLine 0 [some (vR 2), some (vR a1), some (vI a2)] [] w h Q) : CI mX3_settingLine [vR 2, vR a1, vI a2] w h Q := CA.of (M := mX3_settingLine) (by decide) rfl (Nat.le_of_ble_eq_true rfl) X
set_option maxRecDepth 20000 in
theorem r_X3_settingLine_0 {w : WS} {h : AH} {Q : Int → AH → Prop} {a1 a2 : Int} (sA : shA w) (V : CV mX6_advance [vR 3] w h (fun h1 => (inR a2 ∧ ((¬ a2 = 408362632 → ((¬ a2 = 17376357 → CI mX3_takeNumber [vR 2, vI 0, vI 20] w h1 (fun x4 h3 => (wt w a1 = 15 ∧ (inR ((st h3 a1 11 x4) 2 1) ∧ ((¬ ((st h3 a1 11 x4) 2 1) = 0 → Q 0 (st h3 a1 11 x4)) ∧ (((st h3 a1 11 x4) 2 1) = 0 → Q 1 (st h3 a1 11 x4))))))) ∧ (a2 = 17376357 → CI mX3_takeNumber [vR 2, vI 1, vI 99] w h1 (fun x10 h9 => (wt w a1 = 15 ∧ (inR ((st h9 a1 10 x10) 2 1) ∧ ((¬ ((st h9 a1 10 x10) 2 1) = 0 → Q 0 (st h9 a1 10 x10)) ∧ (((st h9 a1 10 x10) 2 1) = 0 → Q 1 (st h9 a1 10 x10))))))))) ∧ (a2 = 408362632 → CI mX3_takeNumber [vR 2, vI 1, vI 300] w h1 (fun x18 h17 => (wt w a1 = 15 ∧ (inR ((st h17 a1 9 x18) 2 1) ∧ ((¬ ((st h17 a1 9 x18) 2 1) = 0 → Q 0 (st h17 a1 9 x18)) ∧ (((st h17 a1 9 x18) 2 1) = 0 → Q 1 (st h17 a1 9 x18))))))))))) : XI mX3_settingLine 0 [some (vR 2), some (vR a1), some (vI a2)] [] w h Q := by
  refine s_aload_n (pc' := 1) (x := 2) dX3_settingLine_0 rfl rfl ?_
  refine s_getF (pc' := 4) (b := 3) (kc := 3) (i := 0) dX3_settingLine_1 clX3 (by decide) fl_3_0 (fa_t2 sA) (fa_f3_0 sA) (fun _ => rfl) rfl ?_
  refine s_callV (pc' := 7) (av := []) (a := 3) (sk := []) (kc := 6) dX3_settingLine_4 ml_3_69 okX6_advance oiX6_advance (by decide) (NF := 6) rfl (fa_tape sA).1 rfl (Nat.le_of_ble_eq_true rfl) (Nat.le_refl 0) (Nat.le_refl 0) rfl (CV.on V (fun h1 V => ?_))
  refine s_iload_n (pc' := 8) (x := a2) dX3_settingLine_7 rfl rfl ?_
  refine s_ldc (pc' := 10) (x := 408362632) dX3_settingLine_8 cst_3_106 rfl rfl ?_
  obtain ⟨z2, V⟩ := V
  obtain ⟨V23, V24⟩ := V
  refine s_icmp_ne (pc' := 13) (tgt := 28) dX3_settingLine_10 rfl rfl z2 (by decide) (fun c => ?_) (fun c => ?_)
  · have V := V23 c
    refine s_iload_n (pc' := 29) (x := a2) dX3_settingLine_28 rfl rfl ?_
    refine s_ldc (pc' := 31) (x := 17376357) dX3_settingLine_29 cst_3_111 rfl rfl ?_
    obtain ⟨V15, V16⟩ := V
    refine s_icmp_ne (pc' := 34) (tgt := 48) dX3_settingLine_31 rfl rfl z2 (by decide) (fun c => ?_) (fun c => ?_)
    · have V := V15 c
      refine s_aload_n (pc' := 49) (x := a1) dX3_settingLine_48 rfl rfl ?_
      refine s_aload_n (pc' := 50) (x := 2) dX3_settingLine_49 rfl rfl ?_
      refine s_iconst (pc' := 51) dX3_settingLine_50 rfl ?_
      refine s_bipush (pc' := 53) dX3_settingLine_51 (by decide) rfl ?_
      refine s_callV (pc' := 56) (av := [vI 0, vI 20]) (a := 2) (sk := [vR a1]) (kc := 3) dX3_settingLine_53 ml_3_90 okX3_takeNumber oiX3_takeNumber (by decide) (NF := 3) rfl (fa_t2 sA) rfl (Nat.le_of_ble_eq_true rfl) (Nat.le_refl 0) (Nat.le_refl 0) rfl (CI.on V (fun x4 h3 V => ?_))
      obtain ⟨z5, V⟩ := V
      refine s_callV (pc' := 59) (av := [vI x4]) (a := a1) (sk := []) (kc := 5) dX3_settingLine_56 ml_3_115 okX5_setStay oiX5_setStay (by decide) (NF := 12) rfl z5 rfl (Nat.le_of_ble_eq_true rfl) (Nat.le_refl 0) (Nat.le_refl 0) rfl (CV.eon (c_X5_setStay z5) ?_)
      refine s_aload_n (pc' := 60) (x := 2) dX3_settingLine_59 rfl rfl ?_
      refine s_get (pc' := 63) (v := vI ((st h3 a1 11 x4) 2 1)) (kc := 3) (i := 1) dX3_settingLine_60 clX3 (by decide) fl_3_1 (fa_t2 sA) (fun _ => rfl) rfl ?_
      obtain ⟨z6, V⟩ := V
      obtain ⟨V7, V8⟩ := V
      refine s_if_ne (pc' := 66) (tgt := 70) dX3_settingLine_63 rfl rfl z6 (fun c => ?_) (fun c => ?_)
      · have V := V7 c
        refine s_iconst (pc' := 71) dX3_settingLine_70 rfl ?_
        exact s_zret dX3_settingLine_71 rfl (by decide) ⟨_, rfl, rfl, V⟩
      · have V := V8 c
        refine s_iconst (pc' := 67) dX3_settingLine_66 rfl ?_
        refine s_goto (tgt := 71) dX3_settingLine_67 rfl ?_
        exact s_zret dX3_settingLine_71 rfl (by decide) ⟨_, rfl, rfl, V⟩
    · have V := V16 c
      refine s_aload_n (pc' := 35) (x := a1) dX3_settingLine_34 rfl rfl ?_
      refine s_aload_n (pc' := 36) (x := 2) dX3_settingLine_35 rfl rfl ?_
      refine s_iconst (pc' := 37) dX3_settingLine_36 rfl ?_
      refine s_bipush (pc' := 39) dX3_settingLine_37 (by decide) rfl ?_
      refine s_callV (pc' := 42) (av := [vI 1, vI 99]) (a := 2) (sk := [vR a1]) (kc := 3) dX3_settingLine_39 ml_3_90 okX3_takeNumber oiX3_takeNumber (by decide) (NF := 3) rfl (fa_t2 sA) rfl (Nat.le_of_ble_eq_true rfl) (Nat.le_refl 0) (Nat.le_refl 0) rfl (CI.on V (fun x10 h9 V => ?_))
      obtain ⟨z11, V⟩ := V
      refine s_callV (pc' := 45) (av := [vI x10]) (a := a1) (sk := []) (kc := 5) dX3_settingLine_42 ml_3_112 okX5_setPrice oiX5_setPrice (by decide) (NF := 12) rfl z11 rfl (Nat.le_of_ble_eq_true rfl) (Nat.le_refl 0) (Nat.le_refl 0) rfl (CV.eon (c_X5_setPrice z11) ?_)
      refine s_goto (tgt := 59) dX3_settingLine_45 rfl ?_
      refine s_aload_n (pc' := 60) (x := 2) dX3_settingLine_59 rfl rfl ?_
      refine s_get (pc' := 63) (v := vI ((st h9 a1 10 x10) 2 1)) (kc := 3) (i := 1) dX3_settingLine_60 clX3 (by decide) fl_3_1 (fa_t2 sA) (fun _ => rfl) rfl ?_
      obtain ⟨z12, V⟩ := V
      obtain ⟨V13, V14⟩ := V
      refine s_if_ne (pc' := 66) (tgt := 70) dX3_settingLine_63 rfl rfl z12 (fun c => ?_) (fun c => ?_)
      · have V := V13 c
        refine s_iconst (pc' := 71) dX3_settingLine_70 rfl ?_
        exact s_zret dX3_settingLine_71 rfl (by decide) ⟨_, rfl, rfl, V⟩
      · have V := V14 c
        refine s_iconst (pc' := 67) dX3_settingLine_66 rfl ?_
        refine s_goto (tgt := 71) dX3_settingLine_67 rfl ?_
        exact s_zret dX3_settingLine_71 rfl (by decide) ⟨_, rfl, rfl, V⟩
  · have V := V24 c
    refine s_aload_n (pc' := 14) (x := a1) dX3_settingLine_13 rfl rfl ?_
    refine s_aload_n (pc' := 15) (x := 2) dX3_settingLine_14 rfl rfl ?_
    refine s_iconst (pc' := 16) dX3_settingLine_15 rfl ?_
    refine s_sipush (pc' := 19) dX3_settingLine_16 (by decide) rfl ?_
    refine s_callV (pc' := 22) (av := [vI 1, vI 300]) (a := 2) (sk := [vR a1]) (kc := 3) dX3_settingLine_19 ml_3_90 okX3_takeNumber oiX3_takeNumber (by decide) (NF := 3) rfl (fa_t2 sA) rfl (Nat.le_of_ble_eq_true rfl) (Nat.le_refl 0) (Nat.le_refl 0) rfl (CI.on V (fun x18 h17 V => ?_))
    obtain ⟨z19, V⟩ := V
    refine s_callV (pc' := 25) (av := [vI x18]) (a := a1) (sk := []) (kc := 5) dX3_settingLine_22 ml_3_107 okX5_setLength oiX5_setLength (by decide) (NF := 12) rfl z19 rfl (Nat.le_of_ble_eq_true rfl) (Nat.le_refl 0) (Nat.le_refl 0) rfl (CV.eon (c_X5_setLength z19) ?_)
    refine s_goto (tgt := 59) dX3_settingLine_25 rfl ?_
    refine s_aload_n (pc' := 60) (x := 2) dX3_settingLine_59 rfl rfl ?_
    refine s_get (pc' := 63) (v := vI ((st h17 a1 9 x18) 2 1)) (kc := 3) (i := 1) dX3_settingLine_60 clX3 (by decide) fl_3_1 (fa_t2 sA) (fun _ => rfl) rfl ?_
    obtain ⟨z20, V⟩ := V
    obtain ⟨V21, V22⟩ := V
    refine s_if_ne (pc' := 66) (tgt := 70) dX3_settingLine_63 rfl rfl z20 (fun c => ?_) (fun c => ?_)
    · have V := V21 c
      refine s_iconst (pc' := 71) dX3_settingLine_70 rfl ?_
      exact s_zret dX3_settingLine_71 rfl (by decide) ⟨_, rfl, rfl, V⟩
    · have V := V22 c
      refine s_iconst (pc' := 67) dX3_settingLine_66 rfl ?_
      refine s_goto (tgt := 71) dX3_settingLine_67 rfl ?_
      exact s_zret dX3_settingLine_71 rfl (by decide) ⟨_, rfl, rfl, V⟩
theorem e_X3_timerLine {w : WS} {h : AH} {Q : Int → AH → Prop} {a1 a2 : Int} (X : XI mX3_timerLine 0 [some (vR 2), some (vR a1), some (vI a2), none, none, none] [] w h Q) : CI mX3_timerLine [vR 2, vR a1, vI a2] w h Q := CA.of (M := mX3_timerLine) (by decide) rfl (Nat.le_of_ble_eq_true rfl) X
set_option maxRecDepth 20000 in
theorem r_X3_timerLine_0 {w : WS} {h : AH} {Q : Int → AH → Prop} {a1 a2 : Int} (sA : shA w) (V : (wt w a1 = 15 ∧ (inR (h a1 8) ∧ (((h a1 8) < 24 → CI mX3_takeKind [vR 2, vR a1] w h (fun x4 h3 => (inR a2 ∧ ((a2 = 0 → CI mX3_takeNumber [vR 2, vI 0, vI 300] w h3 (fun x7 h6 => (inR (h6 2 1) ∧ (((h6 2 1) = 0 → CV mX5_addTimer [vR a1, vI x4, vI 0, vI x7] w h6 (fun h9 => Q 1 h9)) ∧ (¬ (h6 2 1) = 0 → Q 0 h6))))) ∧ (¬ a2 = 0 → CI mX3_takeNumber [vR 2, vI 1, vI 60] w h3 (fun x13 h12 => CI mX3_takeNumber [vR 2, vI 0, vI 300] w h12 (fun x15 h14 => (inR (h14 2 1) ∧ (((h14 2 1) = 0 → CV mX5_addTimer [vR a1, vI x4, vI x13, vI x15] w h14 (fun h17 => Q 1 h17)) ∧ (¬ (h14 2 1) = 0 → Q 0 h14)))))))))) ∧ (¬ (h a1 8) < 24 → (∀ h22, h22 = failH h (4 : Int) → Q (0 : Int) h22)))))) : XI mX3_timerLine 0 [some (vR 2), some (vR a1), some (vI a2), none, none, none] [] w h Q := by
  refine s_aload_n (pc' := 1) (x := a1) dX3_timerLine_0 rfl rfl ?_
  obtain ⟨z1, V⟩ := V
  refine s_callV (pc' := 4) (av := []) (a := a1) (sk := []) (kc := 5) dX3_timerLine_1 ml_3_99 okX5_timers oiX5_timers (by decide) (NF := 12) rfl z1 rfl (Nat.le_of_ble_eq_true rfl) (Nat.le_refl 0) (Nat.le_refl 0) rfl (CI.eon (c_X5_timers z1) ?_)
  refine s_bipush (pc' := 6) dX3_timerLine_4 (by decide) rfl ?_
  obtain ⟨z2, V⟩ := V
  obtain ⟨V24, V25⟩ := V
  refine s_icmp_lt (pc' := 9) (tgt := 15) dX3_timerLine_6 rfl rfl z2 (by decide) (fun c => ?_) (fun c => ?_)
  · have V := V24 c
    refine s_aload_n (pc' := 16) (x := 2) dX3_timerLine_15 rfl rfl ?_
    refine s_aload_n (pc' := 17) (x := a1) dX3_timerLine_16 rfl rfl ?_
    refine s_callV (pc' := 20) (av := [vR a1]) (a := 2) (sk := []) (kc := 3) dX3_timerLine_17 ml_3_85 okX3_takeKind oiX3_takeKind (by decide) (NF := 3) rfl (fa_t2 sA) rfl (Nat.le_of_ble_eq_true rfl) (Nat.le_refl 0) (Nat.le_refl 0) rfl (CI.on V (fun x4 h3 V => ?_))
    refine s_istore_n (pc' := 21) (ls' := [some (vR 2), some (vR a1), some (vI a2), some (vI x4), none, none]) dX3_timerLine_20 (by decide) rfl rfl ?_
    refine s_iload_n (pc' := 22) (x := a2) dX3_timerLine_21 rfl rfl ?_
    obtain ⟨z5, V⟩ := V
    obtain ⟨V20, V21⟩ := V
    refine s_if_eq (pc' := 25) (tgt := 35) dX3_timerLine_22 rfl rfl z5 (fun c => ?_) (fun c => ?_)
    · have V := V20 c
      refine s_iconst (pc' := 36) dX3_timerLine_35 rfl ?_
      refine s_istore (pc' := 38) (ls' := [some (vR 2), some (vR a1), some (vI a2), some (vI x4), some (vI 0), none]) dX3_timerLine_36 (by decide) rfl rfl ?_
      refine s_aload_n (pc' := 39) (x := 2) dX3_timerLine_38 rfl rfl ?_
      refine s_iconst (pc' := 40) dX3_timerLine_39 rfl ?_
      refine s_sipush (pc' := 43) dX3_timerLine_40 (by decide) rfl ?_
      refine s_callV (pc' := 46) (av := [vI 0, vI 300]) (a := 2) (sk := []) (kc := 3) dX3_timerLine_43 ml_3_90 okX3_takeNumber oiX3_takeNumber (by decide) (NF := 3) rfl (fa_t2 sA) rfl (Nat.le_of_ble_eq_true rfl) (Nat.le_refl 0) (Nat.le_refl 0) rfl (CI.on V (fun x7 h6 V => ?_))
      refine s_istore (pc' := 48) (ls' := [some (vR 2), some (vR a1), some (vI a2), some (vI x4), some (vI 0), some (vI x7)]) dX3_timerLine_46 (by decide) rfl rfl ?_
      refine s_aload_n (pc' := 49) (x := 2) dX3_timerLine_48 rfl rfl ?_
      refine s_get (pc' := 52) (v := vI (h6 2 1)) (kc := 3) (i := 1) dX3_timerLine_49 clX3 (by decide) fl_3_1 (fa_t2 sA) (fun _ => rfl) rfl ?_
      obtain ⟨z8, V⟩ := V
      obtain ⟨V10, V11⟩ := V
      refine s_if_eq (pc' := 55) (tgt := 57) dX3_timerLine_52 rfl rfl z8 (fun c => ?_) (fun c => ?_)
      · have V := V10 c
        refine s_aload_n (pc' := 58) (x := a1) dX3_timerLine_57 rfl rfl ?_
        refine s_iload_n (pc' := 59) (x := x4) dX3_timerLine_58 rfl rfl ?_
        refine s_iload (pc' := 61) (x := 0) dX3_timerLine_59 rfl rfl ?_
        refine s_iload (pc' := 63) (x := x7) dX3_timerLine_61 rfl rfl ?_
        refine s_callV (pc' := 66) (av := [vI x4, vI 0, vI x7]) (a := a1) (sk := []) (kc := 5) dX3_timerLine_63 ml_3_102 okX5_addTimer oiX5_addTimer (by decide) (NF := 12) rfl z1 rfl (Nat.le_of_ble_eq_true rfl) (Nat.le_refl 0) (Nat.le_refl 0) rfl (CV.on V (fun h9 V => ?_))
        refine s_iconst (pc' := 67) dX3_timerLine_66 rfl ?_
        exact s_zret dX3_timerLine_67 rfl (by decide) ⟨_, rfl, rfl, V⟩
      · have V := V11 c
        refine s_iconst (pc' := 56) dX3_timerLine_55 rfl ?_
        exact s_zret dX3_timerLine_56 rfl (by decide) ⟨_, rfl, rfl, V⟩
    · have V := V21 c
      refine s_aload_n (pc' := 26) (x := 2) dX3_timerLine_25 rfl rfl ?_
      refine s_iconst (pc' := 27) dX3_timerLine_26 rfl ?_
      refine s_bipush (pc' := 29) dX3_timerLine_27 (by decide) rfl ?_
      refine s_callV (pc' := 32) (av := [vI 1, vI 60]) (a := 2) (sk := []) (kc := 3) dX3_timerLine_29 ml_3_90 okX3_takeNumber oiX3_takeNumber (by decide) (NF := 3) rfl (fa_t2 sA) rfl (Nat.le_of_ble_eq_true rfl) (Nat.le_refl 0) (Nat.le_refl 0) rfl (CI.on V (fun x13 h12 V => ?_))
      refine s_goto (tgt := 36) dX3_timerLine_32 rfl ?_
      refine s_istore (pc' := 38) (ls' := [some (vR 2), some (vR a1), some (vI a2), some (vI x4), some (vI x13), none]) dX3_timerLine_36 (by decide) rfl rfl ?_
      refine s_aload_n (pc' := 39) (x := 2) dX3_timerLine_38 rfl rfl ?_
      refine s_iconst (pc' := 40) dX3_timerLine_39 rfl ?_
      refine s_sipush (pc' := 43) dX3_timerLine_40 (by decide) rfl ?_
      refine s_callV (pc' := 46) (av := [vI 0, vI 300]) (a := 2) (sk := []) (kc := 3) dX3_timerLine_43 ml_3_90 okX3_takeNumber oiX3_takeNumber (by decide) (NF := 3) rfl (fa_t2 sA) rfl (Nat.le_of_ble_eq_true rfl) (Nat.le_refl 0) (Nat.le_refl 0) rfl (CI.on V (fun x15 h14 V => ?_))
      refine s_istore (pc' := 48) (ls' := [some (vR 2), some (vR a1), some (vI a2), some (vI x4), some (vI x13), some (vI x15)]) dX3_timerLine_46 (by decide) rfl rfl ?_
      refine s_aload_n (pc' := 49) (x := 2) dX3_timerLine_48 rfl rfl ?_
      refine s_get (pc' := 52) (v := vI (h14 2 1)) (kc := 3) (i := 1) dX3_timerLine_49 clX3 (by decide) fl_3_1 (fa_t2 sA) (fun _ => rfl) rfl ?_
      obtain ⟨z16, V⟩ := V
      obtain ⟨V18, V19⟩ := V
      refine s_if_eq (pc' := 55) (tgt := 57) dX3_timerLine_52 rfl rfl z16 (fun c => ?_) (fun c => ?_)
      · have V := V18 c
        refine s_aload_n (pc' := 58) (x := a1) dX3_timerLine_57 rfl rfl ?_
        refine s_iload_n (pc' := 59) (x := x4) dX3_timerLine_58 rfl rfl ?_
        refine s_iload (pc' := 61) (x := x13) dX3_timerLine_59 rfl rfl ?_
        refine s_iload (pc' := 63) (x := x15) dX3_timerLine_61 rfl rfl ?_
        refine s_callV (pc' := 66) (av := [vI x4, vI x13, vI x15]) (a := a1) (sk := []) (kc := 5) dX3_timerLine_63 ml_3_102 okX5_addTimer oiX5_addTimer (by decide) (NF := 12) rfl z1 rfl (Nat.le_of_ble_eq_true rfl) (Nat.le_refl 0) (Nat.le_refl 0) rfl (CV.on V (fun h17 V => ?_))
        refine s_iconst (pc' := 67) dX3_timerLine_66 rfl ?_
        exact s_zret dX3_timerLine_67 rfl (by decide) ⟨_, rfl, rfl, V⟩
      · have V := V19 c
        refine s_iconst (pc' := 56) dX3_timerLine_55 rfl ?_
        exact s_zret dX3_timerLine_56 rfl (by decide) ⟨_, rfl, rfl, V⟩
  · have V := V25 c
    refine s_aload_n (pc' := 10) (x := 2) dX3_timerLine_9 rfl rfl ?_
    refine s_iconst (pc' := 11) dX3_timerLine_10 rfl ?_
    refine s_callV (pc' := 14) (av := [vI 4]) (a := 2) (sk := []) (kc := 3) dX3_timerLine_11 ml_3_44 okX3_fails oiX3_fails (by decide) (NF := 3) rfl (fa_t2 sA) rfl (Nat.le_of_ble_eq_true rfl) (Nat.le_refl 0) (Nat.le_refl 0) rfl (CI.hon (c_X3_fails sA) ?_)
    obtain ⟨h22, e23⟩ : ∃ q, q = failH h (4 : Int) := ⟨_, rfl⟩
    rw [← e23]
    have V := V h22 e23
    exact s_zret dX3_timerLine_14 rfl (by decide) ⟨_, rfl, rfl, V⟩
theorem e_X3_classLine {w : WS} {h : AH} {Q : Int → AH → Prop} {a1 : Int} (X : XI mX3_classLine 0 [some (vR 2), some (vR a1), none, none, none, none] [] w h Q) : CI mX3_classLine [vR 2, vR a1] w h Q := CA.of (M := mX3_classLine) (by decide) rfl (Nat.le_of_ble_eq_true rfl) X
set_option maxRecDepth 20000 in
theorem r_X3_classLine_0 {w : WS} {h : AH} {Q : Int → AH → Prop} {a1 : Int} (sA : shA w) (V : (wt w a1 = 15 ∧ (inR (h a1 4) ∧ (((h a1 4) < 8 → CV mX6_advance [vR 3] w h (fun h3 => (inR (h3 3 4) ∧ (h3 3 4 = 3 → inR (h3 3 5)) ∧ (((h3 3 4 = 3 ∧ ¬ isQw (h3 3 5)) → CI mX5_kindNamed [vR a1, vI (h3 3 5)] w h3 (fun x7 h6 => (inR x7 ∧ ((x7 = (-1) → CV mX6_advance [vR 3] w h6 (fun h9 => (inR (h9 3 4) ∧ (h9 3 4 = 3 → inR (h9 3 5)) ∧ ((¬ (h9 3 4 = 3 ∧ h9 3 5 = (486 : Int)) → XI mX3_classLine 86 [some (vR 2), some (vR a1), some (vI (h3 3 5)), some (vI (-1)), none, none] [] w h9 Q) ∧ ((h9 3 4 = 3 ∧ h9 3 5 = (486 : Int)) → CI mX3_takeKind [vR 2, vR a1] w h9 (fun x13 h12 => XI mX3_classLine 86 [some (vR 2), some (vR a1), some (vI (h3 3 5)), some (vI x13), none, none] [] w h12 Q)))))) ∧ (¬ x7 = (-1) → (∀ h16, h16 = failH h6 (2 : Int) → Q (0 : Int) h16)))))) ∧ (¬ (h3 3 4 = 3 ∧ ¬ isQw (h3 3 5)) → (∀ h20, h20 = failH h3 (1 : Int) → Q (0 : Int) h20)))))) ∧ (¬ (h a1 4) < 8 → (∀ h24, h24 = failH h (4 : Int) → Q (0 : Int) h24)))))) : XI mX3_classLine 0 [some (vR 2), some (vR a1), none, none, none, none] [] w h Q := by
  refine s_aload_n (pc' := 1) (x := a1) dX3_classLine_0 rfl rfl ?_
  obtain ⟨z1, V⟩ := V
  refine s_callV (pc' := 4) (av := []) (a := a1) (sk := []) (kc := 5) dX3_classLine_1 ml_3_72 okX5_kinds oiX5_kinds (by decide) (NF := 12) rfl z1 rfl (Nat.le_of_ble_eq_true rfl) (Nat.le_refl 0) (Nat.le_refl 0) rfl (CI.eon (c_X5_kinds z1) ?_)
  refine s_bipush (pc' := 6) dX3_classLine_4 (by decide) rfl ?_
  obtain ⟨z2, V⟩ := V
  obtain ⟨V26, V27⟩ := V
  refine s_icmp_lt (pc' := 9) (tgt := 15) dX3_classLine_6 rfl rfl z2 (by decide) (fun c => ?_) (fun c => ?_)
  · have V := V26 c
    refine s_aload_n (pc' := 16) (x := 2) dX3_classLine_15 rfl rfl ?_
    refine s_getF (pc' := 19) (b := 3) (kc := 3) (i := 0) dX3_classLine_16 clX3 (by decide) fl_3_0 (fa_t2 sA) (fa_f3_0 sA) (fun _ => rfl) rfl ?_
    refine s_callV (pc' := 22) (av := []) (a := 3) (sk := []) (kc := 6) dX3_classLine_19 ml_3_69 okX6_advance oiX6_advance (by decide) (NF := 6) rfl (fa_tape sA).1 rfl (Nat.le_of_ble_eq_true rfl) (Nat.le_refl 0) (Nat.le_refl 0) rfl (CV.on V (fun h3 V => ?_))
    refine s_aload_n (pc' := 23) (x := 2) dX3_classLine_22 rfl rfl ?_
    obtain ⟨z4, z5, V⟩ := V
    refine s_callV (pc' := 26) (av := []) (a := 2) (sk := []) (kc := 3) dX3_classLine_23 ml_3_75 okX3_atName oiX3_atName (by decide) (NF := 3) rfl (fa_t2 sA) rfl (Nat.le_of_ble_eq_true rfl) (Nat.le_refl 0) (Nat.le_refl 0) rfl (CI.eon (c_X3_atName sA z4 z5) ?_)
    obtain ⟨V22, V23⟩ := V
    refine s_ifne_b (pc' := 29) (tgt := 35) dX3_classLine_26 rfl rfl (fun c => ?_) (fun c => ?_)
    · have V := V22 c
      refine s_aload_n (pc' := 36) (x := 2) dX3_classLine_35 rfl rfl ?_
      refine s_getF (pc' := 39) (b := 3) (kc := 3) (i := 0) dX3_classLine_36 clX3 (by decide) fl_3_0 (fa_t2 sA) (fa_f3_0 sA) (fun _ => rfl) rfl ?_
      refine s_callV (pc' := 42) (av := []) (a := 3) (sk := []) (kc := 6) dX3_classLine_39 ml_3_51 okX6_value oiX6_value (by decide) (NF := 6) rfl (fa_tape sA).1 rfl (Nat.le_of_ble_eq_true rfl) (Nat.le_refl 0) (Nat.le_refl 0) rfl (CI.eon (c_X6_value (fa_tape sA).1) ?_)
      refine s_istore_n (pc' := 43) (ls' := [some (vR 2), some (vR a1), some (vI (h3 3 5)), none, none, none]) dX3_classLine_42 (by decide) rfl rfl ?_
      refine s_aload_n (pc' := 44) (x := a1) dX3_classLine_43 rfl rfl ?_
      refine s_iload_n (pc' := 45) (x := (h3 3 5)) dX3_classLine_44 rfl rfl ?_
      refine s_callV (pc' := 48) (av := [vI (h3 3 5)]) (a := a1) (sk := []) (kc := 5) dX3_classLine_45 ml_3_78 okX5_kindNamed oiX5_kindNamed (by decide) (NF := 12) rfl z1 rfl (Nat.le_of_ble_eq_true rfl) (Nat.le_refl 0) (Nat.le_refl 0) rfl (CI.on V (fun x7 h6 V => ?_))
      refine s_iconst (pc' := 49) dX3_classLine_48 rfl ?_
      obtain ⟨z8, V⟩ := V
      obtain ⟨V18, V19⟩ := V
      refine s_icmp_eq (pc' := 52) (tgt := 58) dX3_classLine_49 rfl rfl z8 (by decide) (fun c => ?_) (fun c => ?_)
      · have V := V18 c
        refine s_aload_n (pc' := 59) (x := 2) dX3_classLine_58 rfl rfl ?_
        refine s_getF (pc' := 62) (b := 3) (kc := 3) (i := 0) dX3_classLine_59 clX3 (by decide) fl_3_0 (fa_t2 sA) (fa_f3_0 sA) (fun _ => rfl) rfl ?_
        refine s_callV (pc' := 65) (av := []) (a := 3) (sk := []) (kc := 6) dX3_classLine_62 ml_3_69 okX6_advance oiX6_advance (by decide) (NF := 6) rfl (fa_tape sA).1 rfl (Nat.le_of_ble_eq_true rfl) (Nat.le_refl 0) (Nat.le_refl 0) rfl (CV.on V (fun h9 V => ?_))
        refine s_iconst (pc' := 66) dX3_classLine_65 rfl ?_
        refine s_istore_n (pc' := 67) (ls' := [some (vR 2), some (vR a1), some (vI (h3 3 5)), some (vI (-1)), none, none]) dX3_classLine_66 (by decide) rfl rfl ?_
        refine s_aload_n (pc' := 68) (x := 2) dX3_classLine_67 rfl rfl ?_
        refine s_getF (pc' := 71) (b := 3) (kc := 3) (i := 0) dX3_classLine_68 clX3 (by decide) fl_3_0 (fa_t2 sA) (fa_f3_0 sA) (fun _ => rfl) rfl ?_
        refine s_sipush (pc' := 74) dX3_classLine_71 (by decide) rfl ?_
        obtain ⟨z10, z11, V⟩ := V
        refine s_callV (pc' := 77) (av := [vI 486]) (a := 3) (sk := []) (kc := 6) dX3_classLine_74 ml_3_82 okX6_reads oiX6_reads (by decide) (NF := 6) rfl (fa_tape sA).1 rfl (Nat.le_of_ble_eq_true rfl) (Nat.le_refl 0) (Nat.le_refl 0) rfl (CI.eon (c_X6_reads (fa_tape sA).1 (by decide) z10 z11) ?_)
        obtain ⟨V14, V15⟩ := V
        refine s_ifeq_b (pc' := 80) (tgt := 86) dX3_classLine_77 rfl rfl (fun c => ?_) (fun c => ?_)
        · have V := V14 c
          exact V
        · have V := V15 c
          refine s_aload_n (pc' := 81) (x := 2) dX3_classLine_80 rfl rfl ?_
          refine s_aload_n (pc' := 82) (x := a1) dX3_classLine_81 rfl rfl ?_
          refine s_callV (pc' := 85) (av := [vR a1]) (a := 2) (sk := []) (kc := 3) dX3_classLine_82 ml_3_85 okX3_takeKind oiX3_takeKind (by decide) (NF := 3) rfl (fa_t2 sA) rfl (Nat.le_of_ble_eq_true rfl) (Nat.le_refl 0) (Nat.le_refl 0) rfl (CI.on V (fun x13 h12 V => ?_))
          refine s_istore_n (pc' := 86) (ls' := [some (vR 2), some (vR a1), some (vI (h3 3 5)), some (vI x13), none, none]) dX3_classLine_85 (by decide) rfl rfl ?_
          exact V
      · have V := V19 c
        refine s_aload_n (pc' := 53) (x := 2) dX3_classLine_52 rfl rfl ?_
        refine s_iconst (pc' := 54) dX3_classLine_53 rfl ?_
        refine s_callV (pc' := 57) (av := [vI 2]) (a := 2) (sk := []) (kc := 3) dX3_classLine_54 ml_3_44 okX3_fails oiX3_fails (by decide) (NF := 3) rfl (fa_t2 sA) rfl (Nat.le_of_ble_eq_true rfl) (Nat.le_refl 0) (Nat.le_refl 0) rfl (CI.hon (c_X3_fails sA) ?_)
        obtain ⟨h16, e17⟩ : ∃ q, q = failH h6 (2 : Int) := ⟨_, rfl⟩
        rw [← e17]
        have V := V h16 e17
        exact s_zret dX3_classLine_57 rfl (by decide) ⟨_, rfl, rfl, V⟩
    · have V := V23 c
      refine s_aload_n (pc' := 30) (x := 2) dX3_classLine_29 rfl rfl ?_
      refine s_iconst (pc' := 31) dX3_classLine_30 rfl ?_
      refine s_callV (pc' := 34) (av := [vI 1]) (a := 2) (sk := []) (kc := 3) dX3_classLine_31 ml_3_44 okX3_fails oiX3_fails (by decide) (NF := 3) rfl (fa_t2 sA) rfl (Nat.le_of_ble_eq_true rfl) (Nat.le_refl 0) (Nat.le_refl 0) rfl (CI.hon (c_X3_fails sA) ?_)
      obtain ⟨h20, e21⟩ : ∃ q, q = failH h3 (1 : Int) := ⟨_, rfl⟩
      rw [← e21]
      have V := V h20 e21
      exact s_zret dX3_classLine_34 rfl (by decide) ⟨_, rfl, rfl, V⟩
  · have V := V27 c
    refine s_aload_n (pc' := 10) (x := 2) dX3_classLine_9 rfl rfl ?_
    refine s_iconst (pc' := 11) dX3_classLine_10 rfl ?_
    refine s_callV (pc' := 14) (av := [vI 4]) (a := 2) (sk := []) (kc := 3) dX3_classLine_11 ml_3_44 okX3_fails oiX3_fails (by decide) (NF := 3) rfl (fa_t2 sA) rfl (Nat.le_of_ble_eq_true rfl) (Nat.le_refl 0) (Nat.le_refl 0) rfl (CI.hon (c_X3_fails sA) ?_)
    obtain ⟨h24, e25⟩ : ∃ q, q = failH h (4 : Int) := ⟨_, rfl⟩
    rw [← e25]
    have V := V h24 e25
    exact s_zret dX3_classLine_14 rfl (by decide) ⟨_, rfl, rfl, V⟩
set_option maxRecDepth 20000 in
theorem r_X3_classLine_86 {w : WS} {h : AH} {Q : Int → AH → Prop} {a1 a2 a3 : Int} (sA : shA w) (V : (inR (h 3 4) ∧ (h 3 4 = 3 → inR (h 3 5)) ∧ ((¬ (h 3 4 = 3 ∧ h 3 5 = (20317291 : Int)) → XI mX3_classLine 117 [some (vR 2), some (vR a1), some (vI a2), some (vI a3), some (vI (-1)), none] [] w h Q) ∧ ((h 3 4 = 3 ∧ h 3 5 = (20317291 : Int)) → CV mX6_advance [vR 3] w h (fun h3 => CI mX3_takeNumber [vR 2, vI 0, vI 99] w h3 (fun x5 h4 => XI mX3_classLine 117 [some (vR 2), some (vR a1), some (vI a2), some (vI a3), some (vI x5), none] [] w h4 Q)))))) : XI mX3_classLine 86 [some (vR 2), some (vR a1), some (vI a2), some (vI a3), none, none] [] w h Q := by
  refine s_iconst (pc' := 87) dX3_classLine_86 rfl ?_
  refine s_istore (pc' := 89) (ls' := [some (vR 2), some (vR a1), some (vI a2), some (vI a3), some (vI (-1)), none]) dX3_classLine_87 (by decide) rfl rfl ?_
  refine s_aload_n (pc' := 90) (x := 2) dX3_classLine_89 rfl rfl ?_
  refine s_getF (pc' := 93) (b := 3) (kc := 3) (i := 0) dX3_classLine_90 clX3 (by decide) fl_3_0 (fa_t2 sA) (fa_f3_0 sA) (fun _ => rfl) rfl ?_
  refine s_ldc (pc' := 95) (x := 20317291) dX3_classLine_93 cst_3_89 rfl rfl ?_
  obtain ⟨z1, z2, V⟩ := V
  refine s_callV (pc' := 98) (av := [vI 20317291]) (a := 3) (sk := []) (kc := 6) dX3_classLine_95 ml_3_82 okX6_reads oiX6_reads (by decide) (NF := 6) rfl (fa_tape sA).1 rfl (Nat.le_of_ble_eq_true rfl) (Nat.le_refl 0) (Nat.le_refl 0) rfl (CI.eon (c_X6_reads (fa_tape sA).1 (by decide) z1 z2) ?_)
  obtain ⟨V6, V7⟩ := V
  refine s_ifeq_b (pc' := 101) (tgt := 117) dX3_classLine_98 rfl rfl (fun c => ?_) (fun c => ?_)
  · have V := V6 c
    exact V
  · have V := V7 c
    refine s_aload_n (pc' := 102) (x := 2) dX3_classLine_101 rfl rfl ?_
    refine s_getF (pc' := 105) (b := 3) (kc := 3) (i := 0) dX3_classLine_102 clX3 (by decide) fl_3_0 (fa_t2 sA) (fa_f3_0 sA) (fun _ => rfl) rfl ?_
    refine s_callV (pc' := 108) (av := []) (a := 3) (sk := []) (kc := 6) dX3_classLine_105 ml_3_69 okX6_advance oiX6_advance (by decide) (NF := 6) rfl (fa_tape sA).1 rfl (Nat.le_of_ble_eq_true rfl) (Nat.le_refl 0) (Nat.le_refl 0) rfl (CV.on V (fun h3 V => ?_))
    refine s_aload_n (pc' := 109) (x := 2) dX3_classLine_108 rfl rfl ?_
    refine s_iconst (pc' := 110) dX3_classLine_109 rfl ?_
    refine s_bipush (pc' := 112) dX3_classLine_110 (by decide) rfl ?_
    refine s_callV (pc' := 115) (av := [vI 0, vI 99]) (a := 2) (sk := []) (kc := 3) dX3_classLine_112 ml_3_90 okX3_takeNumber oiX3_takeNumber (by decide) (NF := 3) rfl (fa_t2 sA) rfl (Nat.le_of_ble_eq_true rfl) (Nat.le_refl 0) (Nat.le_refl 0) rfl (CI.on V (fun x5 h4 V => ?_))
    refine s_istore (pc' := 117) (ls' := [some (vR 2), some (vR a1), some (vI a2), some (vI a3), some (vI x5), none]) dX3_classLine_115 (by decide) rfl rfl ?_
    exact V
set_option maxRecDepth 20000 in
theorem r_X3_classLine_117 {w : WS} {h : AH} {Q : Int → AH → Prop} {a1 a2 a3 a4 : Int} (sA : shA w) (V : (inR (h 3 4) ∧ (h 3 4 = 3 → inR (h 3 5)) ∧ ((¬ (h 3 4 = 3 ∧ h 3 5 = (777297172 : Int)) → XI mX3_classLine 148 [some (vR 2), some (vR a1), some (vI a2), some (vI a3), some (vI a4), some (vI (-1))] [] w h Q) ∧ ((h 3 4 = 3 ∧ h 3 5 = (777297172 : Int)) → CV mX6_advance [vR 3] w h (fun h3 => CI mX3_takeNumber [vR 2, vI 0, vI 9] w h3 (fun x5 h4 => XI mX3_classLine 148 [some (vR 2), some (vR a1), some (vI a2), some (vI a3), some (vI a4), some (vI x5)] [] w h4 Q)))))) : XI mX3_classLine 117 [some (vR 2), some (vR a1), some (vI a2), some (vI a3), some (vI a4), none] [] w h Q := by
  refine s_iconst (pc' := 118) dX3_classLine_117 rfl ?_
  refine s_istore (pc' := 120) (ls' := [some (vR 2), some (vR a1), some (vI a2), some (vI a3), some (vI a4), some (vI (-1))]) dX3_classLine_118 (by decide) rfl rfl ?_
  refine s_aload_n (pc' := 121) (x := 2) dX3_classLine_120 rfl rfl ?_
  refine s_getF (pc' := 124) (b := 3) (kc := 3) (i := 0) dX3_classLine_121 clX3 (by decide) fl_3_0 (fa_t2 sA) (fa_f3_0 sA) (fun _ => rfl) rfl ?_
  refine s_ldc (pc' := 126) (x := 777297172) dX3_classLine_124 cst_3_94 rfl rfl ?_
  obtain ⟨z1, z2, V⟩ := V
  refine s_callV (pc' := 129) (av := [vI 777297172]) (a := 3) (sk := []) (kc := 6) dX3_classLine_126 ml_3_82 okX6_reads oiX6_reads (by decide) (NF := 6) rfl (fa_tape sA).1 rfl (Nat.le_of_ble_eq_true rfl) (Nat.le_refl 0) (Nat.le_refl 0) rfl (CI.eon (c_X6_reads (fa_tape sA).1 (by decide) z1 z2) ?_)
  obtain ⟨V6, V7⟩ := V
  refine s_ifeq_b (pc' := 132) (tgt := 148) dX3_classLine_129 rfl rfl (fun c => ?_) (fun c => ?_)
  · have V := V6 c
    exact V
  · have V := V7 c
    refine s_aload_n (pc' := 133) (x := 2) dX3_classLine_132 rfl rfl ?_
    refine s_getF (pc' := 136) (b := 3) (kc := 3) (i := 0) dX3_classLine_133 clX3 (by decide) fl_3_0 (fa_t2 sA) (fa_f3_0 sA) (fun _ => rfl) rfl ?_
    refine s_callV (pc' := 139) (av := []) (a := 3) (sk := []) (kc := 6) dX3_classLine_136 ml_3_69 okX6_advance oiX6_advance (by decide) (NF := 6) rfl (fa_tape sA).1 rfl (Nat.le_of_ble_eq_true rfl) (Nat.le_refl 0) (Nat.le_refl 0) rfl (CV.on V (fun h3 V => ?_))
    refine s_aload_n (pc' := 140) (x := 2) dX3_classLine_139 rfl rfl ?_
    refine s_iconst (pc' := 141) dX3_classLine_140 rfl ?_
    refine s_bipush (pc' := 143) dX3_classLine_141 (by decide) rfl ?_
    refine s_callV (pc' := 146) (av := [vI 0, vI 9]) (a := 2) (sk := []) (kc := 3) dX3_classLine_143 ml_3_90 okX3_takeNumber oiX3_takeNumber (by decide) (NF := 3) rfl (fa_t2 sA) rfl (Nat.le_of_ble_eq_true rfl) (Nat.le_refl 0) (Nat.le_refl 0) rfl (CI.on V (fun x5 h4 V => ?_))
    refine s_istore (pc' := 148) (ls' := [some (vR 2), some (vR a1), some (vI a2), some (vI a3), some (vI a4), some (vI x5)]) dX3_classLine_146 (by decide) rfl rfl ?_
    exact V
set_option maxRecDepth 20000 in
theorem r_X3_classLine_148 {w : WS} {h : AH} {Q : Int → AH → Prop} {a1 a2 a3 a4 a5 : Int} (sA : shA w) (V : (inR (h 2 1) ∧ (((h 2 1) = 0 → (wt w a1 = 15 ∧ CV mX5_addKind [vR a1, vI a2, vI a3, vI a4, vI a5] w h (fun h3 => Q 1 h3))) ∧ (¬ (h 2 1) = 0 → Q 0 h)))) : XI mX3_classLine 148 [some (vR 2), some (vR a1), some (vI a2), some (vI a3), some (vI a4), some (vI a5)] [] w h Q := by
  refine s_aload_n (pc' := 149) (x := 2) dX3_classLine_148 rfl rfl ?_
  refine s_get (pc' := 152) (v := vI (h 2 1)) (kc := 3) (i := 1) dX3_classLine_149 clX3 (by decide) fl_3_1 (fa_t2 sA) (fun _ => rfl) rfl ?_
  obtain ⟨z1, V⟩ := V
  obtain ⟨V4, V5⟩ := V
  refine s_if_eq (pc' := 155) (tgt := 157) dX3_classLine_152 rfl rfl z1 (fun c => ?_) (fun c => ?_)
  · have V := V4 c
    refine s_aload_n (pc' := 158) (x := a1) dX3_classLine_157 rfl rfl ?_
    refine s_iload_n (pc' := 159) (x := a2) dX3_classLine_158 rfl rfl ?_
    refine s_iload_n (pc' := 160) (x := a3) dX3_classLine_159 rfl rfl ?_
    refine s_iload (pc' := 162) (x := a4) dX3_classLine_160 rfl rfl ?_
    refine s_iload (pc' := 164) (x := a5) dX3_classLine_162 rfl rfl ?_
    obtain ⟨z2, V⟩ := V
    refine s_callV (pc' := 167) (av := [vI a2, vI a3, vI a4, vI a5]) (a := a1) (sk := []) (kc := 5) dX3_classLine_164 ml_3_95 okX5_addKind oiX5_addKind (by decide) (NF := 12) rfl z2 rfl (Nat.le_of_ble_eq_true rfl) (Nat.le_refl 0) (Nat.le_refl 0) rfl (CV.on V (fun h3 V => ?_))
    refine s_iconst (pc' := 168) dX3_classLine_167 rfl ?_
    exact s_zret dX3_classLine_168 rfl (by decide) ⟨_, rfl, rfl, V⟩
  · have V := V5 c
    refine s_iconst (pc' := 156) dX3_classLine_155 rfl ?_
    exact s_zret dX3_classLine_156 rfl (by decide) ⟨_, rfl, rfl, V⟩
theorem e_X3_line {w : WS} {h : AH} {Q : Int → AH → Prop} {a1 : Int} (X : XI mX3_line 0 [some (vR 2), some (vR a1), none, none] [] w h Q) : CI mX3_line [vR 2, vR a1] w h Q := CA.of (M := mX3_line) (by decide) rfl (Nat.le_of_ble_eq_true rfl) X
set_option maxRecDepth 20000 in
theorem r_X3_line_0 {w : WS} {h : AH} {Q : Int → AH → Prop} {a1 : Int} (sA : shA w) (V : (inR (h 3 4) ∧ ((¬ (h 3 4) = 3 → XI mX3_line 23 [some (vR 2), some (vR a1), some (vI (-1)), none] [] w h Q) ∧ ((h 3 4) = 3 → XI mX3_line 23 [some (vR 2), some (vR a1), some (vI (h 3 5)), none] [] w h Q)))) : XI mX3_line 0 [some (vR 2), some (vR a1), none, none] [] w h Q := by
  refine s_aload_n (pc' := 1) (x := 2) dX3_line_0 rfl rfl ?_
  refine s_getF (pc' := 4) (b := 3) (kc := 3) (i := 0) dX3_line_1 clX3 (by decide) fl_3_0 (fa_t2 sA) (fa_f3_0 sA) (fun _ => rfl) rfl ?_
  refine s_callV (pc' := 7) (av := []) (a := 3) (sk := []) (kc := 6) dX3_line_4 ml_3_33 okX6_type oiX6_type (by decide) (NF := 6) rfl (fa_tape sA).1 rfl (Nat.le_of_ble_eq_true rfl) (Nat.le_refl 0) (Nat.le_refl 0) rfl (CI.eon (c_X6_type (fa_tape sA).1) ?_)
  refine s_iconst (pc' := 8) dX3_line_7 rfl ?_
  obtain ⟨z1, V⟩ := V
  obtain ⟨V2, V3⟩ := V
  refine s_icmp_ne (pc' := 11) (tgt := 21) dX3_line_8 rfl rfl z1 (by decide) (fun c => ?_) (fun c => ?_)
  · have V := V2 c
    refine s_iconst (pc' := 22) dX3_line_21 rfl ?_
    refine s_istore_n (pc' := 23) (ls' := [some (vR 2), some (vR a1), some (vI (-1)), none]) dX3_line_22 (by decide) rfl rfl ?_
    exact V
  · have V := V3 c
    refine s_aload_n (pc' := 12) (x := 2) dX3_line_11 rfl rfl ?_
    refine s_getF (pc' := 15) (b := 3) (kc := 3) (i := 0) dX3_line_12 clX3 (by decide) fl_3_0 (fa_t2 sA) (fa_f3_0 sA) (fun _ => rfl) rfl ?_
    refine s_callV (pc' := 18) (av := []) (a := 3) (sk := []) (kc := 6) dX3_line_15 ml_3_51 okX6_value oiX6_value (by decide) (NF := 6) rfl (fa_tape sA).1 rfl (Nat.le_of_ble_eq_true rfl) (Nat.le_refl 0) (Nat.le_refl 0) rfl (CI.eon (c_X6_value (fa_tape sA).1) ?_)
    refine s_goto (tgt := 22) dX3_line_18 rfl ?_
    refine s_istore_n (pc' := 23) (ls' := [some (vR 2), some (vR a1), some (vI (h 3 5)), none]) dX3_line_22 (by decide) rfl rfl ?_
    exact V
set_option maxRecDepth 20000 in
theorem r_X3_line_23 {w : WS} {h : AH} {Q : Int → AH → Prop} {a1 a2 : Int} (sA : shA w) (V : (inR a2 ∧ (((a2 = 505957) → CI mX3_timerLine [vR 2, vR a1, vI 0] w h (fun x3 h2 => XI mX3_line 129 [some (vR 2), none, none, some (vI x3)] [] w h2 Q)) ∧ ((a2 = 643129 ∨ a2 = 17376357 ∨ a2 = 408362632) → CI mX3_settingLine [vR 2, vR a1, vI a2] w h (fun x6 h5 => XI mX3_line 129 [some (vR 2), none, none, some (vI x6)] [] w h5 Q)) ∧ ((a2 = 3540595) → CI mX3_classLine [vR 2, vR a1] w h (fun x9 h8 => XI mX3_line 129 [some (vR 2), none, none, some (vI x9)] [] w h8 Q)) ∧ ((a2 = 5969497) → CI mX3_timerLine [vR 2, vR a1, vI 1] w h (fun x12 h11 => XI mX3_line 129 [some (vR 2), none, none, some (vI x12)] [] w h11 Q)) ∧ ((¬ a2 = 505957 ∧ ¬ a2 = 643129 ∧ ¬ a2 = 3540595 ∧ ¬ a2 = 5969497 ∧ ¬ a2 = 17376357 ∧ ¬ a2 = 408362632) → (∀ h14, h14 = failH h (1 : Int) → Q (0 : Int) h14))))) : XI mX3_line 23 [some (vR 2), some (vR a1), some (vI a2), none] [] w h Q := by
  refine s_iload_n (pc' := 24) (x := a2) dX3_line_23 rfl rfl ?_
  obtain ⟨z1, V⟩ := V
  obtain ⟨V4, V7, V10, V13, V16⟩ := V
  by_cases c : a2 = 505957
  · have V := V4 c
    refine s_lookup (off := 69) (tgt := 93) dX3_line_24 (by decide) z1 (by rw [c]; decide) rfl ?_
    refine s_aload_n (pc' := 94) (x := 2) dX3_line_93 rfl rfl ?_
    refine s_aload_n (pc' := 95) (x := a1) dX3_line_94 rfl rfl ?_
    refine s_iconst (pc' := 96) dX3_line_95 rfl ?_
    refine s_callV (pc' := 99) (av := [vR a1, vI 0]) (a := 2) (sk := []) (kc := 3) dX3_line_96 ml_3_57 okX3_timerLine oiX3_timerLine (by decide) (NF := 3) rfl (fa_t2 sA) rfl (Nat.le_of_ble_eq_true rfl) (Nat.le_refl 0) (Nat.le_refl 0) rfl (CI.on V (fun x3 h2 V => ?_))
    refine s_istore_n (pc' := 100) (ls' := [some (vR 2), some (vR a1), some (vI a2), some (vI x3)]) dX3_line_99 (by decide) rfl rfl ?_
    refine s_goto (tgt := 129) dX3_line_100 rfl ?_
    refine s_drop 1 (ls' := [some (vR 2), none, some (vI a2), some (vI x3)]) rfl ?_
    refine s_drop 2 (ls' := [some (vR 2), none, none, some (vI x3)]) rfl ?_
    exact V
  have c0 := c
  by_cases c : a2 = 643129 ∨ a2 = 17376357 ∨ a2 = 408362632
  · have V := V7 c
    refine s_lookup (off := 89) (tgt := 113) dX3_line_24 (by decide) z1 (by rcases c with c | c | c <;> (rw [c]; decide)) rfl ?_
    refine s_aload_n (pc' := 114) (x := 2) dX3_line_113 rfl rfl ?_
    refine s_aload_n (pc' := 115) (x := a1) dX3_line_114 rfl rfl ?_
    refine s_iload_n (pc' := 116) (x := a2) dX3_line_115 rfl rfl ?_
    refine s_callV (pc' := 119) (av := [vR a1, vI a2]) (a := 2) (sk := []) (kc := 3) dX3_line_116 ml_3_61 okX3_settingLine oiX3_settingLine (by decide) (NF := 3) rfl (fa_t2 sA) rfl (Nat.le_of_ble_eq_true rfl) (Nat.le_refl 0) (Nat.le_refl 0) rfl (CI.on V (fun x6 h5 V => ?_))
    refine s_istore_n (pc' := 120) (ls' := [some (vR 2), some (vR a1), some (vI a2), some (vI x6)]) dX3_line_119 (by decide) rfl rfl ?_
    refine s_goto (tgt := 129) dX3_line_120 rfl ?_
    refine s_drop 1 (ls' := [some (vR 2), none, some (vI a2), some (vI x6)]) rfl ?_
    refine s_drop 2 (ls' := [some (vR 2), none, none, some (vI x6)]) rfl ?_
    exact V
  have c1 := c
  by_cases c : a2 = 3540595
  · have V := V10 c
    refine s_lookup (off := 60) (tgt := 84) dX3_line_24 (by decide) z1 (by rw [c]; decide) rfl ?_
    refine s_aload_n (pc' := 85) (x := 2) dX3_line_84 rfl rfl ?_
    refine s_aload_n (pc' := 86) (x := a1) dX3_line_85 rfl rfl ?_
    refine s_callV (pc' := 89) (av := [vR a1]) (a := 2) (sk := []) (kc := 3) dX3_line_86 ml_3_54 okX3_classLine oiX3_classLine (by decide) (NF := 3) rfl (fa_t2 sA) rfl (Nat.le_of_ble_eq_true rfl) (Nat.le_refl 0) (Nat.le_refl 0) rfl (CI.on V (fun x9 h8 V => ?_))
    refine s_istore_n (pc' := 90) (ls' := [some (vR 2), some (vR a1), some (vI a2), some (vI x9)]) dX3_line_89 (by decide) rfl rfl ?_
    refine s_goto (tgt := 129) dX3_line_90 rfl ?_
    refine s_drop 1 (ls' := [some (vR 2), none, some (vI a2), some (vI x9)]) rfl ?_
    refine s_drop 2 (ls' := [some (vR 2), none, none, some (vI x9)]) rfl ?_
    exact V
  have c2 := c
  by_cases c : a2 = 5969497
  · have V := V13 c
    refine s_lookup (off := 79) (tgt := 103) dX3_line_24 (by decide) z1 (by rw [c]; decide) rfl ?_
    refine s_aload_n (pc' := 104) (x := 2) dX3_line_103 rfl rfl ?_
    refine s_aload_n (pc' := 105) (x := a1) dX3_line_104 rfl rfl ?_
    refine s_iconst (pc' := 106) dX3_line_105 rfl ?_
    refine s_callV (pc' := 109) (av := [vR a1, vI 1]) (a := 2) (sk := []) (kc := 3) dX3_line_106 ml_3_57 okX3_timerLine oiX3_timerLine (by decide) (NF := 3) rfl (fa_t2 sA) rfl (Nat.le_of_ble_eq_true rfl) (Nat.le_refl 0) (Nat.le_refl 0) rfl (CI.on V (fun x12 h11 V => ?_))
    refine s_istore_n (pc' := 110) (ls' := [some (vR 2), some (vR a1), some (vI a2), some (vI x12)]) dX3_line_109 (by decide) rfl rfl ?_
    refine s_goto (tgt := 129) dX3_line_110 rfl ?_
    refine s_drop 1 (ls' := [some (vR 2), none, some (vI a2), some (vI x12)]) rfl ?_
    refine s_drop 2 (ls' := [some (vR 2), none, none, some (vI x12)]) rfl ?_
    exact V
  have c3 := c
  have co : ¬ a2 = 505957 ∧ ¬ a2 = 643129 ∧ ¬ a2 = 3540595 ∧ ¬ a2 = 5969497 ∧ ¬ a2 = 17376357 ∧ ¬ a2 = 408362632 := by omega
  have V := V16 co
  refine s_lookup (off := 99) (tgt := 123) dX3_line_24 (by decide) z1 (by simp only [Op.lookupswitch.offset_cons, Op.lookupswitch.offset_nil]; rw [if_neg (by omega), if_neg (by omega), if_neg (by omega), if_neg (by omega), if_neg (by omega), if_neg (by omega)]) rfl ?_
  refine s_aload_n (pc' := 124) (x := 2) dX3_line_123 rfl rfl ?_
  refine s_iconst (pc' := 125) dX3_line_124 rfl ?_
  refine s_callV (pc' := 128) (av := [vI 1]) (a := 2) (sk := []) (kc := 3) dX3_line_125 ml_3_44 okX3_fails oiX3_fails (by decide) (NF := 3) rfl (fa_t2 sA) rfl (Nat.le_of_ble_eq_true rfl) (Nat.le_refl 0) (Nat.le_refl 0) rfl (CI.hon (c_X3_fails sA) ?_)
  obtain ⟨h14, e15⟩ : ∃ q, q = failH h (1 : Int) := ⟨_, rfl⟩
  rw [← e15]
  have V := V h14 e15
  exact s_zret dX3_line_128 rfl (by decide) ⟨_, rfl, rfl, V⟩
set_option maxRecDepth 20000 in
theorem r_X3_line_129 {w : WS} {h : AH} {Q : Int → AH → Prop} {a3 : Int} (sA : shA w) (V : (inR a3 ∧ ((a3 = 0 → Q 0 h) ∧ (¬ a3 = 0 → CI mX3_closes [vR 2] w h (fun x3 h2 => (inR x3 ∧ ((x3 = 0 → Q 0 h2) ∧ (¬ x3 = 0 → Q 1 h2)))))))) : XI mX3_line 129 [some (vR 2), none, none, some (vI a3)] [] w h Q := by
  refine s_iload_n (pc' := 130) (x := a3) dX3_line_129 rfl rfl ?_
  obtain ⟨z1, V⟩ := V
  obtain ⟨V7, V8⟩ := V
  refine s_if_eq (pc' := 133) (tgt := 144) dX3_line_130 rfl rfl z1 (fun c => ?_) (fun c => ?_)
  · have V := V7 c
    refine s_iconst (pc' := 145) dX3_line_144 rfl ?_
    exact s_zret dX3_line_145 rfl (by decide) ⟨_, rfl, rfl, V⟩
  · have V := V8 c
    refine s_aload_n (pc' := 134) (x := 2) dX3_line_133 rfl rfl ?_
    refine s_callV (pc' := 137) (av := []) (a := 2) (sk := []) (kc := 3) dX3_line_134 ml_3_65 okX3_closes oiX3_closes (by decide) (NF := 3) rfl (fa_t2 sA) rfl (Nat.le_of_ble_eq_true rfl) (Nat.le_refl 0) (Nat.le_refl 0) rfl (CI.on V (fun x3 h2 V => ?_))
    obtain ⟨z4, V⟩ := V
    obtain ⟨V5, V6⟩ := V
    refine s_if_eq (pc' := 140) (tgt := 144) dX3_line_137 rfl rfl z4 (fun c => ?_) (fun c => ?_)
    · have V := V5 c
      refine s_iconst (pc' := 145) dX3_line_144 rfl ?_
      exact s_zret dX3_line_145 rfl (by decide) ⟨_, rfl, rfl, V⟩
    · have V := V6 c
      refine s_iconst (pc' := 141) dX3_line_140 rfl ?_
      refine s_goto (tgt := 145) dX3_line_141 rfl ?_
      exact s_zret dX3_line_145 rfl (by decide) ⟨_, rfl, rfl, V⟩
theorem e_X3_read {w : WS} {h : AH} {Q : Int → AH → Prop} {a1 : Int} (X : XI mX3_read 0 [some (vR 2), some (vR a1), none] [] w h Q) : CI mX3_read [vR 2, vR a1] w h Q := CA.of (M := mX3_read) (by decide) rfl (Nat.le_of_ble_eq_true rfl) X
set_option maxRecDepth 20000 in
theorem r_X3_read_0 {w : WS} {h : AH} {Q : Int → AH → Prop} {a1 : Int} (sA : shA w) (V : (∀ h1, h1 = st h 2 1 0 → (∀ h3, h3 = st h1 2 2 (-1) → (wt w a1 = 15 ∧ CV mX5_clear [vR a1] w h3 (fun h6 => CV mX6_rewind [vR 3] w h6 (fun h7 => XI mX3_read 23 [some (vR 2), some (vR a1), some (vI 0)] [] w h7 Q)))))) : XI mX3_read 0 [some (vR 2), some (vR a1), none] [] w h Q := by
  refine s_aload_n (pc' := 1) (x := 2) dX3_read_0 rfl rfl ?_
  refine s_iconst (pc' := 2) dX3_read_1 rfl ?_
  refine s_put (pc' := 5) (v := vI 0) (x := 0) (kc := 3) (i := 1) dX3_read_2 clX3 (by decide) fl_3_1 rfl (fa_t2 sA) (fun E => nar_int E _) (fun _ _ => rfl) (j0 := 1) rfl rfl ?_
  obtain ⟨h1, e2⟩ : ∃ q, q = st h 2 1 0 := ⟨_, rfl⟩
  rw [← e2]
  have V := V h1 e2
  refine s_aload_n (pc' := 6) (x := 2) dX3_read_5 rfl rfl ?_
  refine s_iconst (pc' := 7) dX3_read_6 rfl ?_
  refine s_put (pc' := 10) (v := vI (-1)) (x := (-1)) (kc := 3) (i := 2) dX3_read_7 clX3 (by decide) fl_3_2 rfl (fa_t2 sA) (fun E => nar_int E _) (fun _ _ => rfl) (j0 := 2) rfl rfl ?_
  obtain ⟨h3, e4⟩ : ∃ q, q = st h1 2 2 (-1) := ⟨_, rfl⟩
  rw [← e4]
  have V := V h3 e4
  refine s_aload_n (pc' := 11) (x := a1) dX3_read_10 rfl rfl ?_
  obtain ⟨z5, V⟩ := V
  refine s_callV (pc' := 14) (av := []) (a := a1) (sk := []) (kc := 5) dX3_read_11 ml_3_25 okX5_clear oiX5_clear (by decide) (NF := 12) rfl z5 rfl (Nat.le_of_ble_eq_true rfl) (Nat.le_refl 0) (Nat.le_refl 0) rfl (CV.on V (fun h6 V => ?_))
  refine s_aload_n (pc' := 15) (x := 2) dX3_read_14 rfl rfl ?_
  refine s_getF (pc' := 18) (b := 3) (kc := 3) (i := 0) dX3_read_15 clX3 (by decide) fl_3_0 (fa_t2 sA) (fa_f3_0 sA) (fun _ => rfl) rfl ?_
  refine s_callV (pc' := 21) (av := []) (a := 3) (sk := []) (kc := 6) dX3_read_18 ml_3_30 okX6_rewind oiX6_rewind (by decide) (NF := 6) rfl (fa_tape sA).1 rfl (Nat.le_of_ble_eq_true rfl) (Nat.le_refl 0) (Nat.le_refl 0) rfl (CV.on V (fun h7 V => ?_))
  refine s_iconst (pc' := 22) dX3_read_21 rfl ?_
  refine s_istore_n (pc' := 23) (ls' := [some (vR 2), some (vR a1), some (vI 0)]) dX3_read_22 (by decide) rfl rfl ?_
  exact V
set_option maxRecDepth 20000 in
theorem r_X3_read_23 {w : WS} {h : AH} {Q : Int → AH → Prop} {a1 a2 : Int} (sA : shA w) (V : (inR a2 ∧ ((600 ≤ a2 → (wt w a1 = 15 ∧ CI mX5_callsInAll [vR a1] w h (fun x4 h3 => (inR x4 ∧ ((x4 ≤ 200 → Q 1 h3) ∧ (¬ x4 ≤ 200 → (∀ h6, h6 = failH h3 (5 : Int) → (((0 : Int) = 0 → Q 0 h6) ∧ (¬ (0 : Int) = 0 → Q 1 h6))))))))) ∧ (¬ 600 ≤ a2 → (inR (h 3 4) ∧ (((h 3 4) = 0 → (wt w a1 = 15 ∧ CI mX5_callsInAll [vR a1] w h (fun x15 h14 => (inR x15 ∧ ((x15 ≤ 200 → Q 1 h14) ∧ (¬ x15 ≤ 200 → (∀ h17, h17 = failH h14 (5 : Int) → (((0 : Int) = 0 → Q 0 h17) ∧ (¬ (0 : Int) = 0 → Q 1 h17))))))))) ∧ (¬ (h 3 4) = 0 → CI mX3_line [vR 2, vR a1] w h (fun x24 h23 => (inR x24 ∧ ((¬ x24 = 0 → XI mX3_read 23 [some (vR 2), some (vR a1), some (vI (a2 + 1))] [] w h23 Q) ∧ (x24 = 0 → Q 0 h23))))))))))) : XI mX3_read 23 [some (vR 2), some (vR a1), some (vI a2)] [] w h Q := by
  refine s_iload_n (pc' := 24) (x := a2) dX3_read_23 rfl rfl ?_
  refine s_sipush (pc' := 27) dX3_read_24 (by decide) rfl ?_
  obtain ⟨z1, V⟩ := V
  obtain ⟨V30, V31⟩ := V
  refine s_icmp_ge (pc' := 30) (tgt := 56) dX3_read_27 rfl rfl z1 (by decide) (fun c => ?_) (fun c => ?_)
  · have V := V30 c
    refine s_aload_n (pc' := 57) (x := a1) dX3_read_56 rfl rfl ?_
    obtain ⟨z2, V⟩ := V
    refine s_callV (pc' := 60) (av := []) (a := a1) (sk := []) (kc := 5) dX3_read_57 ml_3_41 okX5_callsInAll oiX5_callsInAll (by decide) (NF := 12) rfl z2 rfl (Nat.le_of_ble_eq_true rfl) (Nat.le_refl 0) (Nat.le_refl 0) rfl (CI.on V (fun x4 h3 V => ?_))
    refine s_sipush (pc' := 63) dX3_read_60 (by decide) rfl ?_
    obtain ⟨z5, V⟩ := V
    obtain ⟨V10, V11⟩ := V
    refine s_icmp_le (pc' := 66) (tgt := 74) dX3_read_63 rfl rfl z5 (by decide) (fun c => ?_) (fun c => ?_)
    · have V := V10 c
      refine s_iconst (pc' := 75) dX3_read_74 rfl ?_
      refine s_goto (tgt := 79) dX3_read_75 rfl ?_
      exact s_zret dX3_read_79 rfl (by decide) ⟨_, rfl, rfl, V⟩
    · have V := V11 c
      refine s_aload_n (pc' := 67) (x := 2) dX3_read_66 rfl rfl ?_
      refine s_iconst (pc' := 68) dX3_read_67 rfl ?_
      refine s_callV (pc' := 71) (av := [vI 5]) (a := 2) (sk := []) (kc := 3) dX3_read_68 ml_3_44 okX3_fails oiX3_fails (by decide) (NF := 3) rfl (fa_t2 sA) rfl (Nat.le_of_ble_eq_true rfl) (Nat.le_refl 0) (Nat.le_refl 0) rfl (CI.hon (c_X3_fails sA) ?_)
      obtain ⟨h6, e7⟩ : ∃ q, q = failH h3 (5 : Int) := ⟨_, rfl⟩
      rw [← e7]
      have V := V h6 e7
      obtain ⟨V8, V9⟩ := V
      refine s_if_eq (pc' := 74) (tgt := 78) dX3_read_71 rfl rfl (by decide) (fun c => ?_) (fun c => ?_)
      · have V := V8 c
        refine s_iconst (pc' := 79) dX3_read_78 rfl ?_
        exact s_zret dX3_read_79 rfl (by decide) ⟨_, rfl, rfl, V⟩
      · have V := V9 c
        refine s_iconst (pc' := 75) dX3_read_74 rfl ?_
        refine s_goto (tgt := 79) dX3_read_75 rfl ?_
        exact s_zret dX3_read_79 rfl (by decide) ⟨_, rfl, rfl, V⟩
  · have V := V31 c
    refine s_aload_n (pc' := 31) (x := 2) dX3_read_30 rfl rfl ?_
    refine s_getF (pc' := 34) (b := 3) (kc := 3) (i := 0) dX3_read_31 clX3 (by decide) fl_3_0 (fa_t2 sA) (fa_f3_0 sA) (fun _ => rfl) rfl ?_
    refine s_callV (pc' := 37) (av := []) (a := 3) (sk := []) (kc := 6) dX3_read_34 ml_3_33 okX6_type oiX6_type (by decide) (NF := 6) rfl (fa_tape sA).1 rfl (Nat.le_of_ble_eq_true rfl) (Nat.le_refl 0) (Nat.le_refl 0) rfl (CI.eon (c_X6_type (fa_tape sA).1) ?_)
    obtain ⟨z12, V⟩ := V
    obtain ⟨V28, V29⟩ := V
    refine s_if_eq (pc' := 40) (tgt := 56) dX3_read_37 rfl rfl z12 (fun c => ?_) (fun c => ?_)
    · have V := V28 c
      refine s_aload_n (pc' := 57) (x := a1) dX3_read_56 rfl rfl ?_
      obtain ⟨z13, V⟩ := V
      refine s_callV (pc' := 60) (av := []) (a := a1) (sk := []) (kc := 5) dX3_read_57 ml_3_41 okX5_callsInAll oiX5_callsInAll (by decide) (NF := 12) rfl z13 rfl (Nat.le_of_ble_eq_true rfl) (Nat.le_refl 0) (Nat.le_refl 0) rfl (CI.on V (fun x15 h14 V => ?_))
      refine s_sipush (pc' := 63) dX3_read_60 (by decide) rfl ?_
      obtain ⟨z16, V⟩ := V
      obtain ⟨V21, V22⟩ := V
      refine s_icmp_le (pc' := 66) (tgt := 74) dX3_read_63 rfl rfl z16 (by decide) (fun c => ?_) (fun c => ?_)
      · have V := V21 c
        refine s_iconst (pc' := 75) dX3_read_74 rfl ?_
        refine s_goto (tgt := 79) dX3_read_75 rfl ?_
        exact s_zret dX3_read_79 rfl (by decide) ⟨_, rfl, rfl, V⟩
      · have V := V22 c
        refine s_aload_n (pc' := 67) (x := 2) dX3_read_66 rfl rfl ?_
        refine s_iconst (pc' := 68) dX3_read_67 rfl ?_
        refine s_callV (pc' := 71) (av := [vI 5]) (a := 2) (sk := []) (kc := 3) dX3_read_68 ml_3_44 okX3_fails oiX3_fails (by decide) (NF := 3) rfl (fa_t2 sA) rfl (Nat.le_of_ble_eq_true rfl) (Nat.le_refl 0) (Nat.le_refl 0) rfl (CI.hon (c_X3_fails sA) ?_)
        obtain ⟨h17, e18⟩ : ∃ q, q = failH h14 (5 : Int) := ⟨_, rfl⟩
        rw [← e18]
        have V := V h17 e18
        obtain ⟨V19, V20⟩ := V
        refine s_if_eq (pc' := 74) (tgt := 78) dX3_read_71 rfl rfl (by decide) (fun c => ?_) (fun c => ?_)
        · have V := V19 c
          refine s_iconst (pc' := 79) dX3_read_78 rfl ?_
          exact s_zret dX3_read_79 rfl (by decide) ⟨_, rfl, rfl, V⟩
        · have V := V20 c
          refine s_iconst (pc' := 75) dX3_read_74 rfl ?_
          refine s_goto (tgt := 79) dX3_read_75 rfl ?_
          exact s_zret dX3_read_79 rfl (by decide) ⟨_, rfl, rfl, V⟩
    · have V := V29 c
      refine s_aload_n (pc' := 41) (x := 2) dX3_read_40 rfl rfl ?_
      refine s_aload_n (pc' := 42) (x := a1) dX3_read_41 rfl rfl ?_
      refine s_callV (pc' := 45) (av := [vR a1]) (a := 2) (sk := []) (kc := 3) dX3_read_42 ml_3_37 okX3_line oiX3_line (by decide) (NF := 3) rfl (fa_t2 sA) rfl (Nat.le_of_ble_eq_true rfl) (Nat.le_refl 0) (Nat.le_refl 0) rfl (CI.on V (fun x24 h23 V => ?_))
      obtain ⟨z25, V⟩ := V
      obtain ⟨V26, V27⟩ := V
      refine s_if_ne (pc' := 48) (tgt := 50) dX3_read_45 rfl rfl z25 (fun c => ?_) (fun c => ?_)
      · have V := V26 c
        refine s_iinc (pc' := 53) (ls' := [some (vR 2), some (vR a1), some (vI (a2 + 1))]) dX3_read_50 rfl (by decide) rfl rfl ?_
        refine s_goto (tgt := 23) dX3_read_53 rfl ?_
        exact V
      · have V := V27 c
        refine s_iconst (pc' := 49) dX3_read_48 rfl ?_
        exact s_zret dX3_read_49 rfl (by decide) ⟨_, rfl, rfl, V⟩
