section
variable {w : WS} {h : AH}
theorem c_X9_isGood (sA : shA w) (hr : inR (h 65 4)) : CI mX9_isGood [vR 65] w h (fun x h' => x = (if h 65 4 = 0 then 1 else 0) ∧ h' = h) := by
  refine e_X9_isGood (r_X9_isGood_0 sA ⟨hr, fun c => ⟨by rw [if_neg c], rfl⟩, fun c => ⟨by rw [if_pos c], rfl⟩⟩)
theorem c_X9_failsG {k a : Int} (sA : shA w) (hg : h 65 4 = 0) : CV mX9_fails [vR 65, vI k, vI a] w h (fun h' => h' = st (st h 65 4 k) 65 5 a) := by
  refine e_X9_fails (r_X9_fails_0 sA ⟨by omega, fun _ h2 e2 h4 e4 => by rw [e4, e2], fun c => absurd (by omega) c⟩)
theorem c_X9_failsB {k a : Int} (sA : shA w) (hr : inR (h 65 4)) (hg : 0 < h 65 4) : CV mX9_fails [vR 65, vI k, vI a] w h (fun h' => h' = h) := by
  refine e_X9_fails (r_X9_fails_0 sA ⟨hr, fun c => absurd c (by omega), fun _ => rfl⟩)
end
theorem e_X9_isWord {w : WS} {h : AH} {Q : Int → AH → Prop} {a1 : Int} (X : XI mX9_isWord 0 [some (vR 65), some (vL a1), none] [] w h Q) : CI mX9_isWord [vR 65, vL a1] w h Q := CA.of (M := mX9_isWord) (by decide) rfl (Nat.le_of_ble_eq_true rfl) X
set_option maxRecDepth 20000 in
theorem r_X9_isWord_0 {w : WS} {h : AH} {Q : Int → AH → Prop} {a1 : Int} (sA : shA w) (V : (inR (h 65 4) ∧ ((¬ (h 65 4 = 0) → Q 0 h) ∧ ((h 65 4 = 0) → (inR (h 65 35) ∧ ((¬ (h 65 35) = 1 → Q 0 h) ∧ ((h 65 35) = 1 → (inL (h 65 38) ∧ inL a1 ∧ ((¬ (h 65 38) = a1 → Q 0 h) ∧ ((h 65 38) = a1 → Q 1 h)))))))))) : XI mX9_isWord 0 [some (vR 65), some (vL a1), none] [] w h Q := by
  refine s_aload_n (pc' := 1) (x := 65) dX9_isWord_0 rfl rfl ?_
  obtain ⟨z1, V⟩ := V
  refine s_callV (pc' := 4) (av := []) (a := 65) (sk := []) (kc := 9) dX9_isWord_1 ml_9_299 okX9_isGood oiX9_isGood (by decide) (NF := 39) rfl (fa_t65 sA) rfl (Nat.le_of_ble_eq_true rfl) (Nat.le_refl 0) (Nat.le_refl 0) rfl (CI.eon (c_X9_isGood sA z1) ?_)
  obtain ⟨V9, V10⟩ := V
  refine s_ifeq_b (pc' := 7) (tgt := 28) dX9_isWord_4 rfl rfl (fun c => ?_) (fun c => ?_)
  · have V := V9 c
    refine s_iconst (pc' := 29) dX9_isWord_28 rfl ?_
    exact s_zret dX9_isWord_29 rfl (by decide) ⟨_, rfl, rfl, V⟩
  · have V := V10 c
    refine s_aload_n (pc' := 8) (x := 65) dX9_isWord_7 rfl rfl ?_
    refine s_get (pc' := 11) (v := vI (h 65 35)) (kc := 9) (i := 35) dX9_isWord_8 clX9 (by decide) fl_9_35 (fa_t65 sA) (fun _ => rfl) rfl ?_
    refine s_iconst (pc' := 12) dX9_isWord_11 rfl ?_
    obtain ⟨z2, V⟩ := V
    obtain ⟨V7, V8⟩ := V
    refine s_icmp_ne (pc' := 15) (tgt := 28) dX9_isWord_12 rfl rfl z2 (by decide) (fun c => ?_) (fun c => ?_)
    · have V := V7 c
      refine s_iconst (pc' := 29) dX9_isWord_28 rfl ?_
      exact s_zret dX9_isWord_29 rfl (by decide) ⟨_, rfl, rfl, V⟩
    · have V := V8 c
      refine s_aload_n (pc' := 16) (x := 65) dX9_isWord_15 rfl rfl ?_
      refine s_get (pc' := 19) (v := vL (h 65 38)) (kc := 9) (i := 38) dX9_isWord_16 clX9 (by decide) fl_9_38 (fa_t65 sA) (fun _ => rfl) rfl ?_
      refine s_lload_n (pc' := 20) (x := a1) dX9_isWord_19 rfl rfl ?_
      obtain ⟨z3, z4, V⟩ := V
      refine s_lcmp (pc' := 21) dX9_isWord_20 z3 z4 rfl ?_
      obtain ⟨V5, V6⟩ := V
      refine s_if_ne (pc' := 24) (tgt := 28) dX9_isWord_21 rfl rfl (cmpZ_in _ _) (fun c => ?_) (fun c => ?_)
      · have V := V5 (fun q => c ((cmpZ_eq _ _).mpr q))
        refine s_iconst (pc' := 29) dX9_isWord_28 rfl ?_
        exact s_zret dX9_isWord_29 rfl (by decide) ⟨_, rfl, rfl, V⟩
      · have V := V6 ((cmpZ_eq _ _).mp c)
        refine s_iconst (pc' := 25) dX9_isWord_24 rfl ?_
        refine s_goto (tgt := 29) dX9_isWord_25 rfl ?_
        exact s_zret dX9_isWord_29 rfl (by decide) ⟨_, rfl, rfl, V⟩
theorem e_X9_hasWord {w : WS} {h : AH} {Q : Int → AH → Prop} {a1 : Int} (X : XI mX9_hasWord 0 [some (vR 65), some (vL a1), none, none] [] w h Q) : CI mX9_hasWord [vR 65, vL a1] w h Q := CA.of (M := mX9_hasWord) (by decide) rfl (Nat.le_of_ble_eq_true rfl) X
set_option maxRecDepth 20000 in
theorem r_X9_hasWord_0 {w : WS} {h : AH} {Q : Int → AH → Prop} {a1 : Int} (sA : shA w) (V : CI mX9_isWord [vR 65, vL a1] w h (fun x2 h1 => (inR x2 ∧ ((x2 = 0 → ((x2 = 0 ∨ x2 = 1) ∧ Q x2 h1)) ∧ (¬ x2 = 0 → CV mX9_takes [vR 65] w h1 (fun h5 => ((x2 = 0 ∨ x2 = 1) ∧ Q x2 h5))))))) : XI mX9_hasWord 0 [some (vR 65), some (vL a1), none, none] [] w h Q := by
  refine s_aload_n (pc' := 1) (x := 65) dX9_hasWord_0 rfl rfl ?_
  refine s_lload_n (pc' := 2) (x := a1) dX9_hasWord_1 rfl rfl ?_
  refine s_callV (pc' := 5) (av := [vL a1]) (a := 65) (sk := []) (kc := 9) dX9_hasWord_2 ml_9_302 okX9_isWord oiX9_isWord (by decide) (NF := 39) rfl (fa_t65 sA) rfl (Nat.le_of_ble_eq_true rfl) (Nat.le_refl 0) (Nat.le_refl 0) rfl (CI.on V (fun x2 h1 V => ?_))
  refine s_istore_n (pc' := 6) (ls' := [some (vR 65), some (vL a1), none, some (vI x2)]) dX9_hasWord_5 (by decide) rfl rfl ?_
  refine s_iload_n (pc' := 7) (x := x2) dX9_hasWord_6 rfl rfl ?_
  obtain ⟨z3, V⟩ := V
  obtain ⟨V7, V8⟩ := V
  refine s_if_eq (pc' := 10) (tgt := 14) dX9_hasWord_7 rfl rfl z3 (fun c => ?_) (fun c => ?_)
  · have V := V7 c
    refine s_iload_n (pc' := 15) (x := x2) dX9_hasWord_14 rfl rfl ?_
    obtain ⟨z4, V⟩ := V
    exact s_zret dX9_hasWord_15 rfl z4 ⟨_, rfl, rfl, V⟩
  · have V := V8 c
    refine s_aload_n (pc' := 11) (x := 65) dX9_hasWord_10 rfl rfl ?_
    refine s_callV (pc' := 14) (av := []) (a := 65) (sk := []) (kc := 9) dX9_hasWord_11 ml_9_306 okX9_takes oiX9_takes (by decide) (NF := 39) rfl (fa_t65 sA) rfl (Nat.le_of_ble_eq_true rfl) (Nat.le_refl 0) (Nat.le_refl 0) rfl (CV.on V (fun h5 V => ?_))
    refine s_iload_n (pc' := 15) (x := x2) dX9_hasWord_14 rfl rfl ?_
    obtain ⟨z6, V⟩ := V
    exact s_zret dX9_hasWord_15 rfl z6 ⟨_, rfl, rfl, V⟩
theorem e_X9_numeral {w : WS} {h : AH} {Q : Int → AH → Prop} {a1 a2 : Int} (X : XI mX9_numeral 0 [some (vR 65), some (vI a1), some (vI a2), none] [] w h Q) : CI mX9_numeral [vR 65, vI a1, vI a2] w h Q := CA.of (M := mX9_numeral) (by decide) rfl (Nat.le_of_ble_eq_true rfl) X
set_option maxRecDepth 20000 in
theorem r_X9_numeral_0 {w : WS} {h : AH} {Q : Int → AH → Prop} {a1 a2 : Int} (sA : shA w) (V : (inR (h 65 4) ∧ ((¬ (h 65 4 = 0) → XI mX9_numeral 24 [some (vR 65), some (vI a1), some (vI a2), none] [] w h Q) ∧ ((h 65 4 = 0) → (inR (h 65 35) ∧ (((h 65 35) = 2 → XI mX9_numeral 24 [some (vR 65), some (vI a1), some (vI a2), none] [] w h Q) ∧ (¬ (h 65 35) = 2 → CV mX9_fails [vR 65, vI 1, vI (h 65 36)] w h (fun h3 => XI mX9_numeral 24 [some (vR 65), some (vI a1), some (vI a2), none] [] w h3 Q)))))))) : XI mX9_numeral 0 [some (vR 65), some (vI a1), some (vI a2), none] [] w h Q := by
  refine s_aload_n (pc' := 1) (x := 65) dX9_numeral_0 rfl rfl ?_
  obtain ⟨z1, V⟩ := V
  refine s_callV (pc' := 4) (av := []) (a := 65) (sk := []) (kc := 9) dX9_numeral_1 ml_9_299 okX9_isGood oiX9_isGood (by decide) (NF := 39) rfl (fa_t65 sA) rfl (Nat.le_of_ble_eq_true rfl) (Nat.le_refl 0) (Nat.le_refl 0) rfl (CI.eon (c_X9_isGood sA z1) ?_)
  obtain ⟨V6, V7⟩ := V
  refine s_ifeq_b (pc' := 7) (tgt := 24) dX9_numeral_4 rfl rfl (fun c => ?_) (fun c => ?_)
  · have V := V6 c
    exact V
  · have V := V7 c
    refine s_aload_n (pc' := 8) (x := 65) dX9_numeral_7 rfl rfl ?_
    refine s_get (pc' := 11) (v := vI (h 65 35)) (kc := 9) (i := 35) dX9_numeral_8 clX9 (by decide) fl_9_35 (fa_t65 sA) (fun _ => rfl) rfl ?_
    refine s_iconst (pc' := 12) dX9_numeral_11 rfl ?_
    obtain ⟨z2, V⟩ := V
    obtain ⟨V4, V5⟩ := V
    refine s_icmp_eq (pc' := 15) (tgt := 24) dX9_numeral_12 rfl rfl z2 (by decide) (fun c => ?_) (fun c => ?_)
    · have V := V4 c
      exact V
    · have V := V5 c
      refine s_aload_n (pc' := 16) (x := 65) dX9_numeral_15 rfl rfl ?_
      refine s_iconst (pc' := 17) dX9_numeral_16 rfl ?_
      refine s_aload_n (pc' := 18) (x := 65) dX9_numeral_17 rfl rfl ?_
      refine s_get (pc' := 21) (v := vI (h 65 36)) (kc := 9) (i := 36) dX9_numeral_18 clX9 (by decide) fl_9_36 (fa_t65 sA) (fun _ => rfl) rfl ?_
      refine s_callV (pc' := 24) (av := [vI 1, vI (h 65 36)]) (a := 65) (sk := []) (kc := 9) dX9_numeral_21 ml_9_309 okX9_fails oiX9_fails (by decide) (NF := 39) rfl (fa_t65 sA) rfl (Nat.le_of_ble_eq_true rfl) (Nat.le_refl 0) (Nat.le_refl 0) rfl (CV.on V (fun h3 V => ?_))
      exact V
set_option maxRecDepth 20000 in
theorem r_X9_numeral_24 {w : WS} {h : AH} {Q : Int → AH → Prop} {a1 a2 : Int} (sA : shA w) (V : (inR (h 65 4) ∧ ((¬ (h 65 4 = 0) → XI mX9_numeral 60 [some (vR 65), some (vI a1), none, none] [] w h Q) ∧ ((h 65 4 = 0) → (inR a1 ∧ (inL (h 65 38) ∧ inL a1 ∧ (((h 65 38) < a1 → CV mX9_fails [vR 65, vI 3, vI (h 65 36)] w h (fun h5 => XI mX9_numeral 60 [some (vR 65), some (vI a1), none, none] [] w h5 Q)) ∧ (¬ (h 65 38) < a1 → (inR a2 ∧ (inL a2 ∧ (((h 65 38) ≤ a2 → XI mX9_numeral 60 [some (vR 65), some (vI a1), none, none] [] w h Q) ∧ (¬ (h 65 38) ≤ a2 → CV mX9_fails [vR 65, vI 3, vI (h 65 36)] w h (fun h8 => XI mX9_numeral 60 [some (vR 65), some (vI a1), none, none] [] w h8 Q))))))))))))) : XI mX9_numeral 24 [some (vR 65), some (vI a1), some (vI a2), none] [] w h Q := by
  refine s_aload_n (pc' := 25) (x := 65) dX9_numeral_24 rfl rfl ?_
  obtain ⟨z1, V⟩ := V
  refine s_callV (pc' := 28) (av := []) (a := 65) (sk := []) (kc := 9) dX9_numeral_25 ml_9_299 okX9_isGood oiX9_isGood (by decide) (NF := 39) rfl (fa_t65 sA) rfl (Nat.le_of_ble_eq_true rfl) (Nat.le_refl 0) (Nat.le_refl 0) rfl (CI.eon (c_X9_isGood sA z1) ?_)
  obtain ⟨V13, V14⟩ := V
  refine s_ifeq_b (pc' := 31) (tgt := 60) dX9_numeral_28 rfl rfl (fun c => ?_) (fun c => ?_)
  · have V := V13 c
    refine s_drop 2 (ls' := [some (vR 65), some (vI a1), none, none]) rfl ?_
    exact V
  · have V := V14 c
    refine s_aload_n (pc' := 32) (x := 65) dX9_numeral_31 rfl rfl ?_
    refine s_get (pc' := 35) (v := vL (h 65 38)) (kc := 9) (i := 38) dX9_numeral_32 clX9 (by decide) fl_9_38 (fa_t65 sA) (fun _ => rfl) rfl ?_
    refine s_iload_n (pc' := 36) (x := a1) dX9_numeral_35 rfl rfl ?_
    obtain ⟨z2, V⟩ := V
    refine s_i2l (pc' := 37) dX9_numeral_36 z2 rfl ?_
    obtain ⟨z3, z4, V⟩ := V
    refine s_lcmp (pc' := 38) dX9_numeral_37 z3 z4 rfl ?_
    obtain ⟨V11, V12⟩ := V
    refine s_if_lt (pc' := 41) (tgt := 51) dX9_numeral_38 rfl rfl (cmpZ_in _ _) (fun c => ?_) (fun c => ?_)
    · have V := V11 ((cmpZ_lt _ _).mp c)
      refine s_aload_n (pc' := 52) (x := 65) dX9_numeral_51 rfl rfl ?_
      refine s_iconst (pc' := 53) dX9_numeral_52 rfl ?_
      refine s_aload_n (pc' := 54) (x := 65) dX9_numeral_53 rfl rfl ?_
      refine s_get (pc' := 57) (v := vI (h 65 36)) (kc := 9) (i := 36) dX9_numeral_54 clX9 (by decide) fl_9_36 (fa_t65 sA) (fun _ => rfl) rfl ?_
      refine s_callV (pc' := 60) (av := [vI 3, vI (h 65 36)]) (a := 65) (sk := []) (kc := 9) dX9_numeral_57 ml_9_309 okX9_fails oiX9_fails (by decide) (NF := 39) rfl (fa_t65 sA) rfl (Nat.le_of_ble_eq_true rfl) (Nat.le_refl 0) (Nat.le_refl 0) rfl (CV.on V (fun h5 V => ?_))
      refine s_drop 2 (ls' := [some (vR 65), some (vI a1), none, none]) rfl ?_
      exact V
    · have V := V12 (fun q => c ((cmpZ_lt _ _).mpr q))
      refine s_aload_n (pc' := 42) (x := 65) dX9_numeral_41 rfl rfl ?_
      refine s_get (pc' := 45) (v := vL (h 65 38)) (kc := 9) (i := 38) dX9_numeral_42 clX9 (by decide) fl_9_38 (fa_t65 sA) (fun _ => rfl) rfl ?_
      refine s_iload_n (pc' := 46) (x := a2) dX9_numeral_45 rfl rfl ?_
      obtain ⟨z6, V⟩ := V
      refine s_i2l (pc' := 47) dX9_numeral_46 z6 rfl ?_
      obtain ⟨z7, V⟩ := V
      refine s_lcmp (pc' := 48) dX9_numeral_47 z3 z7 rfl ?_
      obtain ⟨V9, V10⟩ := V
      refine s_if_le (pc' := 51) (tgt := 60) dX9_numeral_48 rfl rfl (cmpZ_in _ _) (fun c => ?_) (fun c => ?_)
      · have V := V9 ((cmpZ_le _ _).mp c)
        refine s_drop 2 (ls' := [some (vR 65), some (vI a1), none, none]) rfl ?_
        exact V
      · have V := V10 (fun q => c ((cmpZ_le _ _).mpr q))
        refine s_aload_n (pc' := 52) (x := 65) dX9_numeral_51 rfl rfl ?_
        refine s_iconst (pc' := 53) dX9_numeral_52 rfl ?_
        refine s_aload_n (pc' := 54) (x := 65) dX9_numeral_53 rfl rfl ?_
        refine s_get (pc' := 57) (v := vI (h 65 36)) (kc := 9) (i := 36) dX9_numeral_54 clX9 (by decide) fl_9_36 (fa_t65 sA) (fun _ => rfl) rfl ?_
        refine s_callV (pc' := 60) (av := [vI 3, vI (h 65 36)]) (a := 65) (sk := []) (kc := 9) dX9_numeral_57 ml_9_309 okX9_fails oiX9_fails (by decide) (NF := 39) rfl (fa_t65 sA) rfl (Nat.le_of_ble_eq_true rfl) (Nat.le_refl 0) (Nat.le_refl 0) rfl (CV.on V (fun h8 V => ?_))
        refine s_drop 2 (ls' := [some (vR 65), some (vI a1), none, none]) rfl ?_
        exact V
set_option maxRecDepth 20000 in
theorem r_X9_numeral_60 {w : WS} {h : AH} {Q : Int → AH → Prop} {a1 : Int} (sA : shA w) (V : (inR (h 65 4) ∧ (((h 65 4 = 0) → CV mX9_takes [vR 65] w h (fun h2 => Q (h 65 38) h2)) ∧ (¬ (h 65 4 = 0) → Q a1 h)))) : XI mX9_numeral 60 [some (vR 65), some (vI a1), none, none] [] w h Q := by
  refine s_aload_n (pc' := 61) (x := 65) dX9_numeral_60 rfl rfl ?_
  obtain ⟨z1, V⟩ := V
  refine s_callV (pc' := 64) (av := []) (a := 65) (sk := []) (kc := 9) dX9_numeral_61 ml_9_299 okX9_isGood oiX9_isGood (by decide) (NF := 39) rfl (fa_t65 sA) rfl (Nat.le_of_ble_eq_true rfl) (Nat.le_refl 0) (Nat.le_refl 0) rfl (CI.eon (c_X9_isGood sA z1) ?_)
  obtain ⟨V3, V4⟩ := V
  refine s_ifne_b (pc' := 67) (tgt := 69) dX9_numeral_64 rfl rfl (fun c => ?_) (fun c => ?_)
  · have V := V3 c
    refine s_aload_n (pc' := 70) (x := 65) dX9_numeral_69 rfl rfl ?_
    refine s_get (pc' := 73) (v := vL (h 65 38)) (kc := 9) (i := 38) dX9_numeral_70 clX9 (by decide) fl_9_38 (fa_t65 sA) (fun _ => rfl) rfl ?_
    refine s_l2i (pc' := 74) dX9_numeral_73 rfl ?_
    refine s_istore_n (pc' := 75) (ls' := [some (vR 65), some (vI a1), none, some (vI (h 65 38))]) dX9_numeral_74 (by decide) rfl rfl ?_
    refine s_aload_n (pc' := 76) (x := 65) dX9_numeral_75 rfl rfl ?_
    refine s_callV (pc' := 79) (av := []) (a := 65) (sk := []) (kc := 9) dX9_numeral_76 ml_9_306 okX9_takes oiX9_takes (by decide) (NF := 39) rfl (fa_t65 sA) rfl (Nat.le_of_ble_eq_true rfl) (Nat.le_refl 0) (Nat.le_refl 0) rfl (CV.on V (fun h2 V => ?_))
    refine s_iload_n (pc' := 80) (x := (h 65 38)) dX9_numeral_79 rfl rfl ?_
    exact s_iret dX9_numeral_80 rfl ⟨_, rfl, rfl, V⟩
  · have V := V4 c
    refine s_iload_n (pc' := 68) (x := a1) dX9_numeral_67 rfl rfl ?_
    exact s_iret dX9_numeral_68 rfl ⟨_, rfl, rfl, V⟩
theorem e_X9_named {w : WS} {h : AH} {Q : Int → AH → Prop} (X : XI mX9_named 0 [some (vR 65), none] [] w h Q) : CI mX9_named [vR 65] w h Q := CA.of (M := mX9_named) (by decide) rfl (Nat.le_of_ble_eq_true rfl) X
set_option maxRecDepth 20000 in
theorem r_X9_named_0 {w : WS} {h : AH} {Q : Int → AH → Prop} (sA : shA w) (V : (inR (h 65 4) ∧ ((¬ (h 65 4 = 0) → XI mX9_named 40 [some (vR 65), none] [] w h Q) ∧ ((h 65 4 = 0) → (inR (h 65 35) ∧ ((¬ (h 65 35) = 1 → CV mX9_fails [vR 65, vI 1, vI (h 65 36)] w h (fun h3 => XI mX9_named 40 [some (vR 65), none] [] w h3 Q)) ∧ ((h 65 35) = 1 → (inR (h 65 37) ∧ ((6 < (h 65 37) → CV mX9_fails [vR 65, vI 1, vI (h 65 36)] w h (fun h5 => XI mX9_named 40 [some (vR 65), none] [] w h5 Q)) ∧ (¬ 6 < (h 65 37) → CI mX9_isQuoted [vR 65] w h (fun x7 h6 => (inR x7 ∧ ((x7 = 0 → XI mX9_named 40 [some (vR 65), none] [] w h6 Q) ∧ (¬ x7 = 0 → CV mX9_fails [vR 65, vI 1, vI (h6 65 36)] w h6 (fun h9 => XI mX9_named 40 [some (vR 65), none] [] w h9 Q))))))))))))))) : XI mX9_named 0 [some (vR 65), none] [] w h Q := by
  refine s_aload_n (pc' := 1) (x := 65) dX9_named_0 rfl rfl ?_
  obtain ⟨z1, V⟩ := V
  refine s_callV (pc' := 4) (av := []) (a := 65) (sk := []) (kc := 9) dX9_named_1 ml_9_299 okX9_isGood oiX9_isGood (by decide) (NF := 39) rfl (fa_t65 sA) rfl (Nat.le_of_ble_eq_true rfl) (Nat.le_refl 0) (Nat.le_refl 0) rfl (CI.eon (c_X9_isGood sA z1) ?_)
  obtain ⟨V16, V17⟩ := V
  refine s_ifeq_b (pc' := 7) (tgt := 40) dX9_named_4 rfl rfl (fun c => ?_) (fun c => ?_)
  · have V := V16 c
    exact V
  · have V := V17 c
    refine s_aload_n (pc' := 8) (x := 65) dX9_named_7 rfl rfl ?_
    refine s_get (pc' := 11) (v := vI (h 65 35)) (kc := 9) (i := 35) dX9_named_8 clX9 (by decide) fl_9_35 (fa_t65 sA) (fun _ => rfl) rfl ?_
    refine s_iconst (pc' := 12) dX9_named_11 rfl ?_
    obtain ⟨z2, V⟩ := V
    obtain ⟨V14, V15⟩ := V
    refine s_icmp_ne (pc' := 15) (tgt := 31) dX9_named_12 rfl rfl z2 (by decide) (fun c => ?_) (fun c => ?_)
    · have V := V14 c
      refine s_aload_n (pc' := 32) (x := 65) dX9_named_31 rfl rfl ?_
      refine s_iconst (pc' := 33) dX9_named_32 rfl ?_
      refine s_aload_n (pc' := 34) (x := 65) dX9_named_33 rfl rfl ?_
      refine s_get (pc' := 37) (v := vI (h 65 36)) (kc := 9) (i := 36) dX9_named_34 clX9 (by decide) fl_9_36 (fa_t65 sA) (fun _ => rfl) rfl ?_
      refine s_callV (pc' := 40) (av := [vI 1, vI (h 65 36)]) (a := 65) (sk := []) (kc := 9) dX9_named_37 ml_9_309 okX9_fails oiX9_fails (by decide) (NF := 39) rfl (fa_t65 sA) rfl (Nat.le_of_ble_eq_true rfl) (Nat.le_refl 0) (Nat.le_refl 0) rfl (CV.on V (fun h3 V => ?_))
      exact V
    · have V := V15 c
      refine s_aload_n (pc' := 16) (x := 65) dX9_named_15 rfl rfl ?_
      refine s_get (pc' := 19) (v := vI (h 65 37)) (kc := 9) (i := 37) dX9_named_16 clX9 (by decide) fl_9_37 (fa_t65 sA) (fun _ => rfl) rfl ?_
      refine s_bipush (pc' := 21) dX9_named_19 (by decide) rfl ?_
      obtain ⟨z4, V⟩ := V
      obtain ⟨V12, V13⟩ := V
      refine s_icmp_gt (pc' := 24) (tgt := 31) dX9_named_21 rfl rfl z4 (by decide) (fun c => ?_) (fun c => ?_)
      · have V := V12 c
        refine s_aload_n (pc' := 32) (x := 65) dX9_named_31 rfl rfl ?_
        refine s_iconst (pc' := 33) dX9_named_32 rfl ?_
        refine s_aload_n (pc' := 34) (x := 65) dX9_named_33 rfl rfl ?_
        refine s_get (pc' := 37) (v := vI (h 65 36)) (kc := 9) (i := 36) dX9_named_34 clX9 (by decide) fl_9_36 (fa_t65 sA) (fun _ => rfl) rfl ?_
        refine s_callV (pc' := 40) (av := [vI 1, vI (h 65 36)]) (a := 65) (sk := []) (kc := 9) dX9_named_37 ml_9_309 okX9_fails oiX9_fails (by decide) (NF := 39) rfl (fa_t65 sA) rfl (Nat.le_of_ble_eq_true rfl) (Nat.le_refl 0) (Nat.le_refl 0) rfl (CV.on V (fun h5 V => ?_))
        exact V
      · have V := V13 c
        refine s_aload_n (pc' := 25) (x := 65) dX9_named_24 rfl rfl ?_
        refine s_callV (pc' := 28) (av := []) (a := 65) (sk := []) (kc := 9) dX9_named_25 ml_9_316 okX9_isQuoted oiX9_isQuoted (by decide) (NF := 39) rfl (fa_t65 sA) rfl (Nat.le_of_ble_eq_true rfl) (Nat.le_refl 0) (Nat.le_refl 0) rfl (CI.on V (fun x7 h6 V => ?_))
        obtain ⟨z8, V⟩ := V
        obtain ⟨V10, V11⟩ := V
        refine s_if_eq (pc' := 31) (tgt := 40) dX9_named_28 rfl rfl z8 (fun c => ?_) (fun c => ?_)
        · have V := V10 c
          exact V
        · have V := V11 c
          refine s_aload_n (pc' := 32) (x := 65) dX9_named_31 rfl rfl ?_
          refine s_iconst (pc' := 33) dX9_named_32 rfl ?_
          refine s_aload_n (pc' := 34) (x := 65) dX9_named_33 rfl rfl ?_
          refine s_get (pc' := 37) (v := vI (h6 65 36)) (kc := 9) (i := 36) dX9_named_34 clX9 (by decide) fl_9_36 (fa_t65 sA) (fun _ => rfl) rfl ?_
          refine s_callV (pc' := 40) (av := [vI 1, vI (h6 65 36)]) (a := 65) (sk := []) (kc := 9) dX9_named_37 ml_9_309 okX9_fails oiX9_fails (by decide) (NF := 39) rfl (fa_t65 sA) rfl (Nat.le_of_ble_eq_true rfl) (Nat.le_refl 0) (Nat.le_refl 0) rfl (CV.on V (fun h9 V => ?_))
          exact V
set_option maxRecDepth 20000 in
theorem r_X9_named_40 {w : WS} {h : AH} {Q : Int → AH → Prop} (sA : shA w) (V : (inR (h 65 4) ∧ (((h 65 4 = 0) → XI mX9_named 51 [some (vR 65), some (vI 0)] [] w h Q) ∧ (¬ (h 65 4 = 0) → Q (-1) h)))) : XI mX9_named 40 [some (vR 65), none] [] w h Q := by
  refine s_aload_n (pc' := 41) (x := 65) dX9_named_40 rfl rfl ?_
  obtain ⟨z1, V⟩ := V
  refine s_callV (pc' := 44) (av := []) (a := 65) (sk := []) (kc := 9) dX9_named_41 ml_9_299 okX9_isGood oiX9_isGood (by decide) (NF := 39) rfl (fa_t65 sA) rfl (Nat.le_of_ble_eq_true rfl) (Nat.le_refl 0) (Nat.le_refl 0) rfl (CI.eon (c_X9_isGood sA z1) ?_)
  obtain ⟨V2, V3⟩ := V
  refine s_ifne_b (pc' := 47) (tgt := 49) dX9_named_44 rfl rfl (fun c => ?_) (fun c => ?_)
  · have V := V2 c
    refine s_iconst (pc' := 50) dX9_named_49 rfl ?_
    refine s_istore_n (pc' := 51) (ls' := [some (vR 65), some (vI 0)]) dX9_named_50 (by decide) rfl rfl ?_
    exact V
  · have V := V3 c
    refine s_iconst (pc' := 48) dX9_named_47 rfl ?_
    exact s_iret dX9_named_48 rfl ⟨_, rfl, rfl, V⟩
set_option maxRecDepth 20000 in
theorem r_X9_named_51 {w : WS} {h : AH} {Q : Int → AH → Prop} {a1 : Int} (sA : shA w) (V : (inR a1 ∧ inR (h 66 197) ∧ (((h 66 197) ≤ a1 → ((¬ a1 = (h 66 197) → Q a1 h) ∧ (a1 = (h 66 197) → Q (-1) h))) ∧ (¬ (h 66 197) ≤ a1 → (0 ≤ (8 + a1) ∧ (8 + a1) < 16 ∧ (inL (h 68 (8 + a1)) ∧ inL (h 65 38) ∧ (((h 68 (8 + a1)) = (h 65 38) → ((¬ a1 = (h 66 197) → Q a1 h) ∧ (a1 = (h 66 197) → Q (-1) h))) ∧ (¬ (h 68 (8 + a1)) = (h 65 38) → XI mX9_named 51 [some (vR 65), some (vI (a1 + 1))] [] w h Q)))))))) : XI mX9_named 51 [some (vR 65), some (vI a1)] [] w h Q := by
  refine s_iload_n (pc' := 52) (x := a1) dX9_named_51 rfl rfl ?_
  refine s_aload_n (pc' := 53) (x := 65) dX9_named_52 rfl rfl ?_
  refine s_getF (pc' := 56) (b := 66) (kc := 9) (i := 0) dX9_named_53 clX9 (by decide) fl_9_0 (fa_t65 sA) (fa_f9_0 sA) (fun _ => rfl) rfl ?_
  refine s_sipush (pc' := 59) dX9_named_56 (by decide) rfl ?_
  refine s_iald (pc' := 60) dX9_named_59 (fa_t66 sA) (by decide) (fa_lt66 sA (by decide)) rfl ?_
  obtain ⟨z1, z2, V⟩ := V
  obtain ⟨V13, V14⟩ := V
  refine s_icmp_ge (pc' := 63) (tgt := 86) dX9_named_60 rfl rfl z1 z2 (fun c => ?_) (fun c => ?_)
  · have V := V13 c
    refine s_iload_n (pc' := 87) (x := a1) dX9_named_86 rfl rfl ?_
    refine s_aload_n (pc' := 88) (x := 65) dX9_named_87 rfl rfl ?_
    refine s_getF (pc' := 91) (b := 66) (kc := 9) (i := 0) dX9_named_88 clX9 (by decide) fl_9_0 (fa_t65 sA) (fa_f9_0 sA) (fun _ => rfl) rfl ?_
    refine s_sipush (pc' := 94) dX9_named_91 (by decide) rfl ?_
    refine s_iald (pc' := 95) dX9_named_94 (fa_t66 sA) (by decide) (fa_lt66 sA (by decide)) rfl ?_
    obtain ⟨V3, V4⟩ := V
    refine s_icmp_ne (pc' := 98) (tgt := 102) dX9_named_95 rfl rfl z1 z2 (fun c => ?_) (fun c => ?_)
    · have V := V3 c
      refine s_iload_n (pc' := 103) (x := a1) dX9_named_102 rfl rfl ?_
      exact s_iret dX9_named_103 rfl ⟨_, rfl, rfl, V⟩
    · have V := V4 c
      refine s_iconst (pc' := 99) dX9_named_98 rfl ?_
      refine s_goto (tgt := 103) dX9_named_99 rfl ?_
      exact s_iret dX9_named_103 rfl ⟨_, rfl, rfl, V⟩
  · have V := V14 c
    refine s_aload_n (pc' := 64) (x := 65) dX9_named_63 rfl rfl ?_
    refine s_getF (pc' := 67) (b := 68) (kc := 9) (i := 2) dX9_named_64 clX9 (by decide) fl_9_2 (fa_t65 sA) (fa_f9_2 sA) (fun _ => rfl) rfl ?_
    refine s_bipush (pc' := 69) dX9_named_67 (by decide) rfl ?_
    refine s_iload_n (pc' := 70) (x := a1) dX9_named_69 rfl rfl ?_
    refine s_iadd (pc' := 71) dX9_named_70 rfl ?_
    obtain ⟨z5, z6, V⟩ := V
    refine s_lald (pc' := 72) dX9_named_71 (fa_t68 sA) z5 (fa_lt68 sA z6) rfl ?_
    refine s_aload_n (pc' := 73) (x := 65) dX9_named_72 rfl rfl ?_
    refine s_get (pc' := 76) (v := vL (h 65 38)) (kc := 9) (i := 38) dX9_named_73 clX9 (by decide) fl_9_38 (fa_t65 sA) (fun _ => rfl) rfl ?_
    obtain ⟨z7, z8, V⟩ := V
    refine s_lcmp (pc' := 77) dX9_named_76 z7 z8 rfl ?_
    obtain ⟨V11, V12⟩ := V
    refine s_if_eq (pc' := 80) (tgt := 86) dX9_named_77 rfl rfl (cmpZ_in _ _) (fun c => ?_) (fun c => ?_)
    · have V := V11 ((cmpZ_eq _ _).mp c)
      refine s_iload_n (pc' := 87) (x := a1) dX9_named_86 rfl rfl ?_
      refine s_aload_n (pc' := 88) (x := 65) dX9_named_87 rfl rfl ?_
      refine s_getF (pc' := 91) (b := 66) (kc := 9) (i := 0) dX9_named_88 clX9 (by decide) fl_9_0 (fa_t65 sA) (fa_f9_0 sA) (fun _ => rfl) rfl ?_
      refine s_sipush (pc' := 94) dX9_named_91 (by decide) rfl ?_
      refine s_iald (pc' := 95) dX9_named_94 (fa_t66 sA) (by decide) (fa_lt66 sA (by decide)) rfl ?_
      obtain ⟨V9, V10⟩ := V
      refine s_icmp_ne (pc' := 98) (tgt := 102) dX9_named_95 rfl rfl z1 z2 (fun c => ?_) (fun c => ?_)
      · have V := V9 c
        refine s_iload_n (pc' := 103) (x := a1) dX9_named_102 rfl rfl ?_
        exact s_iret dX9_named_103 rfl ⟨_, rfl, rfl, V⟩
      · have V := V10 c
        refine s_iconst (pc' := 99) dX9_named_98 rfl ?_
        refine s_goto (tgt := 103) dX9_named_99 rfl ?_
        exact s_iret dX9_named_103 rfl ⟨_, rfl, rfl, V⟩
    · have V := V12 (fun q => c ((cmpZ_eq _ _).mpr q))
      refine s_iinc (pc' := 83) (ls' := [some (vR 65), some (vI (a1 + 1))]) dX9_named_80 rfl (by decide) rfl rfl ?_
      refine s_goto (tgt := 51) dX9_named_83 rfl ?_
      exact V
theorem e_X9_known {w : WS} {h : AH} {Q : Int → AH → Prop} (X : XI mX9_known 0 [some (vR 65), none] [] w h Q) : CI mX9_known [vR 65] w h Q := CA.of (M := mX9_known) (by decide) rfl (Nat.le_of_ble_eq_true rfl) X
set_option maxRecDepth 20000 in
theorem r_X9_known_0 {w : WS} {h : AH} {Q : Int → AH → Prop} (sA : shA w) (V : CI mX9_named [vR 65] w h (fun x2 h1 => (inR (h1 65 4) ∧ ((¬ (h1 65 4 = 0) → XI mX9_known 26 [some (vR 65), some (vI x2)] [] w h1 Q) ∧ ((h1 65 4 = 0) → (inR x2 ∧ ((¬ x2 = (-1) → XI mX9_known 26 [some (vR 65), some (vI x2)] [] w h1 Q) ∧ (x2 = (-1) → CV mX9_fails [vR 65, vI 2, vI (h1 65 36)] w h1 (fun h5 => XI mX9_known 26 [some (vR 65), some (vI x2)] [] w h5 Q))))))))) : XI mX9_known 0 [some (vR 65), none] [] w h Q := by
  refine s_aload_n (pc' := 1) (x := 65) dX9_known_0 rfl rfl ?_
  refine s_callV (pc' := 4) (av := []) (a := 65) (sk := []) (kc := 9) dX9_known_1 ml_9_319 okX9_named oiX9_named (by decide) (NF := 39) rfl (fa_t65 sA) rfl (Nat.le_of_ble_eq_true rfl) (Nat.le_refl 0) (Nat.le_refl 0) rfl (CI.on V (fun x2 h1 V => ?_))
  refine s_istore_n (pc' := 5) (ls' := [some (vR 65), some (vI x2)]) dX9_known_4 (by decide) rfl rfl ?_
  refine s_aload_n (pc' := 6) (x := 65) dX9_known_5 rfl rfl ?_
  obtain ⟨z3, V⟩ := V
  refine s_callV (pc' := 9) (av := []) (a := 65) (sk := []) (kc := 9) dX9_known_6 ml_9_299 okX9_isGood oiX9_isGood (by decide) (NF := 39) rfl (fa_t65 sA) rfl (Nat.le_of_ble_eq_true rfl) (Nat.le_refl 0) (Nat.le_refl 0) rfl (CI.eon (c_X9_isGood sA z3) ?_)
  obtain ⟨V8, V9⟩ := V
  refine s_ifeq_b (pc' := 12) (tgt := 26) dX9_known_9 rfl rfl (fun c => ?_) (fun c => ?_)
  · have V := V8 c
    exact V
  · have V := V9 c
    refine s_iload_n (pc' := 13) (x := x2) dX9_known_12 rfl rfl ?_
    refine s_iconst (pc' := 14) dX9_known_13 rfl ?_
    obtain ⟨z4, V⟩ := V
    obtain ⟨V6, V7⟩ := V
    refine s_icmp_ne (pc' := 17) (tgt := 26) dX9_known_14 rfl rfl z4 (by decide) (fun c => ?_) (fun c => ?_)
    · have V := V6 c
      exact V
    · have V := V7 c
      refine s_aload_n (pc' := 18) (x := 65) dX9_known_17 rfl rfl ?_
      refine s_iconst (pc' := 19) dX9_known_18 rfl ?_
      refine s_aload_n (pc' := 20) (x := 65) dX9_known_19 rfl rfl ?_
      refine s_get (pc' := 23) (v := vI (h1 65 36)) (kc := 9) (i := 36) dX9_known_20 clX9 (by decide) fl_9_36 (fa_t65 sA) (fun _ => rfl) rfl ?_
      refine s_callV (pc' := 26) (av := [vI 2, vI (h1 65 36)]) (a := 65) (sk := []) (kc := 9) dX9_known_23 ml_9_309 okX9_fails oiX9_fails (by decide) (NF := 39) rfl (fa_t65 sA) rfl (Nat.le_of_ble_eq_true rfl) (Nat.le_refl 0) (Nat.le_refl 0) rfl (CV.on V (fun h5 V => ?_))
      exact V
set_option maxRecDepth 20000 in
theorem r_X9_known_26 {w : WS} {h : AH} {Q : Int → AH → Prop} {a1 : Int} (sA : shA w) (V : (inR (h 65 4) ∧ (((h 65 4 = 0) → CV mX9_takes [vR 65] w h (fun h2 => Q a1 h2)) ∧ (¬ (h 65 4 = 0) → Q 0 h)))) : XI mX9_known 26 [some (vR 65), some (vI a1)] [] w h Q := by
  refine s_aload_n (pc' := 27) (x := 65) dX9_known_26 rfl rfl ?_
  obtain ⟨z1, V⟩ := V
  refine s_callV (pc' := 30) (av := []) (a := 65) (sk := []) (kc := 9) dX9_known_27 ml_9_299 okX9_isGood oiX9_isGood (by decide) (NF := 39) rfl (fa_t65 sA) rfl (Nat.le_of_ble_eq_true rfl) (Nat.le_refl 0) (Nat.le_refl 0) rfl (CI.eon (c_X9_isGood sA z1) ?_)
  obtain ⟨V3, V4⟩ := V
  refine s_ifne_b (pc' := 33) (tgt := 35) dX9_known_30 rfl rfl (fun c => ?_) (fun c => ?_)
  · have V := V3 c
    refine s_aload_n (pc' := 36) (x := 65) dX9_known_35 rfl rfl ?_
    refine s_callV (pc' := 39) (av := []) (a := 65) (sk := []) (kc := 9) dX9_known_36 ml_9_306 okX9_takes oiX9_takes (by decide) (NF := 39) rfl (fa_t65 sA) rfl (Nat.le_of_ble_eq_true rfl) (Nat.le_refl 0) (Nat.le_refl 0) rfl (CV.on V (fun h2 V => ?_))
    refine s_iload_n (pc' := 40) (x := a1) dX9_known_39 rfl rfl ?_
    exact s_iret dX9_known_40 rfl ⟨_, rfl, rfl, V⟩
  · have V := V4 c
    refine s_iconst (pc' := 34) dX9_known_33 rfl ?_
    exact s_iret dX9_known_34 rfl ⟨_, rfl, rfl, V⟩
theorem e_X9_readsClass {w : WS} {h : AH} {Q : AH → Prop} {a1 : Int} (X : XV mX9_readsClass 0 [some (vR 65), some (vI a1), none, none, none, none] [] w h Q) : CV mX9_readsClass [vR 65, vI a1] w h Q := CA.of (M := mX9_readsClass) (by decide) rfl (Nat.le_of_ble_eq_true rfl) X
set_option maxRecDepth 20000 in
theorem r_X9_readsClass_0 {w : WS} {h : AH} {Q : AH → Prop} {a1 : Int} (sA : shA w) (V : (inR (h 66 197) ∧ ((¬ (h 66 197) = 8 → XV mX9_readsClass 21 [some (vR 65), none, some (vI (h 66 197)), none, none, none] [] w h Q) ∧ ((h 66 197) = 8 → CV mX9_fails [vR 65, vI 4, vI a1] w h (fun h2 => XV mX9_readsClass 21 [some (vR 65), none, some (vI (h 66 197)), none, none, none] [] w h2 Q))))) : XV mX9_readsClass 0 [some (vR 65), some (vI a1), none, none, none, none] [] w h Q := by
  refine s_aload_n (pc' := 1) (x := 65) dX9_readsClass_0 rfl rfl ?_
  refine s_getF (pc' := 4) (b := 66) (kc := 9) (i := 0) dX9_readsClass_1 clX9 (by decide) fl_9_0 (fa_t65 sA) (fa_f9_0 sA) (fun _ => rfl) rfl ?_
  refine s_sipush (pc' := 7) dX9_readsClass_4 (by decide) rfl ?_
  refine s_iald (pc' := 8) dX9_readsClass_7 (fa_t66 sA) (by decide) (fa_lt66 sA (by decide)) rfl ?_
  refine s_istore_n (pc' := 9) (ls' := [some (vR 65), some (vI a1), some (vI (h 66 197)), none, none, none]) dX9_readsClass_8 (by decide) rfl rfl ?_
  refine s_iload_n (pc' := 10) (x := (h 66 197)) dX9_readsClass_9 rfl rfl ?_
  refine s_bipush (pc' := 12) dX9_readsClass_10 (by decide) rfl ?_
  obtain ⟨z1, V⟩ := V
  obtain ⟨V3, V4⟩ := V
  refine s_icmp_ne (pc' := 15) (tgt := 21) dX9_readsClass_12 rfl rfl z1 (by decide) (fun c => ?_) (fun c => ?_)
  · have V := V3 c
    refine s_drop 1 (ls' := [some (vR 65), none, some (vI (h 66 197)), none, none, none]) rfl ?_
    exact V
  · have V := V4 c
    refine s_aload_n (pc' := 16) (x := 65) dX9_readsClass_15 rfl rfl ?_
    refine s_iconst (pc' := 17) dX9_readsClass_16 rfl ?_
    refine s_iload_n (pc' := 18) (x := a1) dX9_readsClass_17 rfl rfl ?_
    refine s_callV (pc' := 21) (av := [vI 4, vI a1]) (a := 65) (sk := []) (kc := 9) dX9_readsClass_18 ml_9_309 okX9_fails oiX9_fails (by decide) (NF := 39) rfl (fa_t65 sA) rfl (Nat.le_of_ble_eq_true rfl) (Nat.le_refl 0) (Nat.le_refl 0) rfl (CV.on V (fun h2 V => ?_))
    refine s_drop 1 (ls' := [some (vR 65), none, some (vI (h 66 197)), none, none, none]) rfl ?_
    exact V
set_option maxRecDepth 20000 in
theorem r_X9_readsClass_21 {w : WS} {h : AH} {Q : AH → Prop} {a2 : Int} (sA : shA w) (V : CI mX9_named [vR 65] w h (fun x2 h1 => (inR (h1 65 4) ∧ ((¬ (h1 65 4 = 0) → XV mX9_readsClass 47 [some (vR 65), none, some (vI a2), none, none, none] [] w h1 Q) ∧ ((h1 65 4 = 0) → (inR x2 ∧ ((x2 = (-1) → XV mX9_readsClass 47 [some (vR 65), none, some (vI a2), none, none, none] [] w h1 Q) ∧ (¬ x2 = (-1) → CV mX9_fails [vR 65, vI 2, vI (h1 65 36)] w h1 (fun h5 => XV mX9_readsClass 47 [some (vR 65), none, some (vI a2), none, none, none] [] w h5 Q))))))))) : XV mX9_readsClass 21 [some (vR 65), none, some (vI a2), none, none, none] [] w h Q := by
  refine s_aload_n (pc' := 22) (x := 65) dX9_readsClass_21 rfl rfl ?_
  refine s_callV (pc' := 25) (av := []) (a := 65) (sk := []) (kc := 9) dX9_readsClass_22 ml_9_319 okX9_named oiX9_named (by decide) (NF := 39) rfl (fa_t65 sA) rfl (Nat.le_of_ble_eq_true rfl) (Nat.le_refl 0) (Nat.le_refl 0) rfl (CI.on V (fun x2 h1 V => ?_))
  refine s_istore_n (pc' := 26) (ls' := [some (vR 65), none, some (vI a2), some (vI x2), none, none]) dX9_readsClass_25 (by decide) rfl rfl ?_
  refine s_aload_n (pc' := 27) (x := 65) dX9_readsClass_26 rfl rfl ?_
  obtain ⟨z3, V⟩ := V
  refine s_callV (pc' := 30) (av := []) (a := 65) (sk := []) (kc := 9) dX9_readsClass_27 ml_9_299 okX9_isGood oiX9_isGood (by decide) (NF := 39) rfl (fa_t65 sA) rfl (Nat.le_of_ble_eq_true rfl) (Nat.le_refl 0) (Nat.le_refl 0) rfl (CI.eon (c_X9_isGood sA z3) ?_)
  obtain ⟨V8, V9⟩ := V
  refine s_ifeq_b (pc' := 33) (tgt := 47) dX9_readsClass_30 rfl rfl (fun c => ?_) (fun c => ?_)
  · have V := V8 c
    refine s_drop 3 (ls' := [some (vR 65), none, some (vI a2), none, none, none]) rfl ?_
    exact V
  · have V := V9 c
    refine s_iload_n (pc' := 34) (x := x2) dX9_readsClass_33 rfl rfl ?_
    refine s_iconst (pc' := 35) dX9_readsClass_34 rfl ?_
    obtain ⟨z4, V⟩ := V
    obtain ⟨V6, V7⟩ := V
    refine s_icmp_eq (pc' := 38) (tgt := 47) dX9_readsClass_35 rfl rfl z4 (by decide) (fun c => ?_) (fun c => ?_)
    · have V := V6 c
      refine s_drop 3 (ls' := [some (vR 65), none, some (vI a2), none, none, none]) rfl ?_
      exact V
    · have V := V7 c
      refine s_aload_n (pc' := 39) (x := 65) dX9_readsClass_38 rfl rfl ?_
      refine s_iconst (pc' := 40) dX9_readsClass_39 rfl ?_
      refine s_aload_n (pc' := 41) (x := 65) dX9_readsClass_40 rfl rfl ?_
      refine s_get (pc' := 44) (v := vI (h1 65 36)) (kc := 9) (i := 36) dX9_readsClass_41 clX9 (by decide) fl_9_36 (fa_t65 sA) (fun _ => rfl) rfl ?_
      refine s_callV (pc' := 47) (av := [vI 2, vI (h1 65 36)]) (a := 65) (sk := []) (kc := 9) dX9_readsClass_44 ml_9_309 okX9_fails oiX9_fails (by decide) (NF := 39) rfl (fa_t65 sA) rfl (Nat.le_of_ble_eq_true rfl) (Nat.le_refl 0) (Nat.le_refl 0) rfl (CV.on V (fun h5 V => ?_))
      refine s_drop 3 (ls' := [some (vR 65), none, some (vI a2), none, none, none]) rfl ?_
      exact V
set_option maxRecDepth 20000 in
theorem r_X9_readsClass_47 {w : WS} {h : AH} {Q : AH → Prop} {a2 : Int} (sA : shA w) (V : (inR (h 65 4) ∧ (((h 65 4 = 0) → CV mX9_takes [vR 65] w h (fun h2 => CI mX9_hasWord [vR 65, vL 411] w h2 (fun x4 h3 => (inR x4 ∧ ((x4 = 0 → (0 ≤ (101 + a2) ∧ (101 + a2) < 202 ∧ (∀ h8, h8 = st h3 66 (101 + a2) (-1) → XV mX9_readsClass 92 [some (vR 65), none, some (vI a2), none, some (vL (h 65 38)), none] [] w h8 Q))) ∧ (¬ x4 = 0 → CI mX9_known [vR 65] w h3 (fun x11 h10 => (0 ≤ (101 + a2) ∧ (101 + a2) < 202 ∧ (∀ h14, h14 = st h10 66 (101 + a2) x11 → XV mX9_readsClass 92 [some (vR 65), none, some (vI a2), none, some (vL (h 65 38)), none] [] w h14 Q))))))))) ∧ (¬ (h 65 4 = 0) → Q h)))) : XV mX9_readsClass 47 [some (vR 65), none, some (vI a2), none, none, none] [] w h Q := by
  refine s_aload_n (pc' := 48) (x := 65) dX9_readsClass_47 rfl rfl ?_
  obtain ⟨z1, V⟩ := V
  refine s_callV (pc' := 51) (av := []) (a := 65) (sk := []) (kc := 9) dX9_readsClass_48 ml_9_299 okX9_isGood oiX9_isGood (by decide) (NF := 39) rfl (fa_t65 sA) rfl (Nat.le_of_ble_eq_true rfl) (Nat.le_refl 0) (Nat.le_refl 0) rfl (CI.eon (c_X9_isGood sA z1) ?_)
  obtain ⟨V18, V19⟩ := V
  refine s_ifne_b (pc' := 54) (tgt := 55) dX9_readsClass_51 rfl rfl (fun c => ?_) (fun c => ?_)
  · have V := V18 c
    refine s_aload_n (pc' := 56) (x := 65) dX9_readsClass_55 rfl rfl ?_
    refine s_get (pc' := 59) (v := vL (h 65 38)) (kc := 9) (i := 38) dX9_readsClass_56 clX9 (by decide) fl_9_38 (fa_t65 sA) (fun _ => rfl) rfl ?_
    refine s_lstore (pc' := 61) (ls' := [some (vR 65), none, some (vI a2), none, some (vL (h 65 38)), none]) dX9_readsClass_59 (by decide) rfl rfl ?_
    refine s_aload_n (pc' := 62) (x := 65) dX9_readsClass_61 rfl rfl ?_
    refine s_callV (pc' := 65) (av := []) (a := 65) (sk := []) (kc := 9) dX9_readsClass_62 ml_9_306 okX9_takes oiX9_takes (by decide) (NF := 39) rfl (fa_t65 sA) rfl (Nat.le_of_ble_eq_true rfl) (Nat.le_refl 0) (Nat.le_refl 0) rfl (CV.on V (fun h2 V => ?_))
    refine s_aload_n (pc' := 66) (x := 65) dX9_readsClass_65 rfl rfl ?_
    refine s_getF (pc' := 69) (b := 66) (kc := 9) (i := 0) dX9_readsClass_66 clX9 (by decide) fl_9_0 (fa_t65 sA) (fa_f9_0 sA) (fun _ => rfl) rfl ?_
    refine s_bipush (pc' := 71) dX9_readsClass_69 (by decide) rfl ?_
    refine s_iload_n (pc' := 72) (x := a2) dX9_readsClass_71 rfl rfl ?_
    refine s_iadd (pc' := 73) dX9_readsClass_72 rfl ?_
    refine s_aload_n (pc' := 74) (x := 65) dX9_readsClass_73 rfl rfl ?_
    refine s_ldc2 (pc' := 77) (x := 411) dX9_readsClass_74 cstl_9_322 rfl rfl ?_
    refine s_callV (pc' := 80) (av := [vL 411]) (a := 65) (sk := [vI (101 + a2), vR 66]) (kc := 9) dX9_readsClass_77 ml_9_324 okX9_hasWord oiX9_hasWord (by decide) (NF := 39) rfl (fa_t65 sA) rfl (Nat.le_of_ble_eq_true rfl) (Nat.le_refl 0) (Nat.le_refl 0) rfl (CI.on V (fun x4 h3 V => ?_))
    obtain ⟨z5, V⟩ := V
    obtain ⟨V16, V17⟩ := V
    refine s_if_eq (pc' := 83) (tgt := 90) dX9_readsClass_80 rfl rfl z5 (fun c => ?_) (fun c => ?_)
    · have V := V16 c
      refine s_iconst (pc' := 91) dX9_readsClass_90 rfl ?_
      obtain ⟨z6, z7, V⟩ := V
      refine s_iast (pc' := 92) dX9_readsClass_91 (fa_t66 sA) z6 (fa_lt66 sA z7) rfl ?_
      obtain ⟨h8, e9⟩ : ∃ q, q = st h3 66 (101 + a2) (-1) := ⟨_, rfl⟩
      rw [← e9]
      have V := V h8 e9
      exact V
    · have V := V17 c
      refine s_aload_n (pc' := 84) (x := 65) dX9_readsClass_83 rfl rfl ?_
      refine s_callV (pc' := 87) (av := []) (a := 65) (sk := [vI (101 + a2), vR 66]) (kc := 9) dX9_readsClass_84 ml_9_327 okX9_known oiX9_known (by decide) (NF := 39) rfl (fa_t65 sA) rfl (Nat.le_of_ble_eq_true rfl) (Nat.le_refl 0) (Nat.le_refl 0) rfl (CI.on V (fun x11 h10 V => ?_))
      refine s_goto (tgt := 91) dX9_readsClass_87 rfl ?_
      obtain ⟨z12, z13, V⟩ := V
      refine s_iast (pc' := 92) dX9_readsClass_91 (fa_t66 sA) z12 (fa_lt66 sA z13) rfl ?_
      obtain ⟨h14, e15⟩ : ∃ q, q = st h10 66 (101 + a2) x11 := ⟨_, rfl⟩
      rw [← e15]
      have V := V h14 e15
      exact V
  · have V := V19 c
    exact s_vret dX9_readsClass_54 rfl ⟨rfl, rfl, V⟩
set_option maxRecDepth 20000 in
theorem r_X9_readsClass_92 {w : WS} {h : AH} {Q : AH → Prop} {a2 a4 : Int} (sA : shA w) (V : CI mX9_hasWord [vR 65, vL 10334396] w h (fun x2 h1 => (inR x2 ∧ ((x2 = 0 → (0 ≤ (109 + a2) ∧ (109 + a2) < 202 ∧ (∀ h6, h6 = st h1 66 (109 + a2) (-1) → XV mX9_readsClass 122 [some (vR 65), none, some (vI a2), none, some (vL a4), none] [] w h6 Q))) ∧ (¬ x2 = 0 → CI mX9_numeral [vR 65, vI 0, vI 99] w h1 (fun x9 h8 => (0 ≤ (109 + a2) ∧ (109 + a2) < 202 ∧ (∀ h12, h12 = st h8 66 (109 + a2) x9 → XV mX9_readsClass 122 [some (vR 65), none, some (vI a2), none, some (vL a4), none] [] w h12 Q)))))))) : XV mX9_readsClass 92 [some (vR 65), none, some (vI a2), none, some (vL a4), none] [] w h Q := by
  refine s_aload_n (pc' := 93) (x := 65) dX9_readsClass_92 rfl rfl ?_
  refine s_getF (pc' := 96) (b := 66) (kc := 9) (i := 0) dX9_readsClass_93 clX9 (by decide) fl_9_0 (fa_t65 sA) (fa_f9_0 sA) (fun _ => rfl) rfl ?_
  refine s_bipush (pc' := 98) dX9_readsClass_96 (by decide) rfl ?_
  refine s_iload_n (pc' := 99) (x := a2) dX9_readsClass_98 rfl rfl ?_
  refine s_iadd (pc' := 100) dX9_readsClass_99 rfl ?_
  refine s_aload_n (pc' := 101) (x := 65) dX9_readsClass_100 rfl rfl ?_
  refine s_ldc2 (pc' := 104) (x := 10334396) dX9_readsClass_101 cstl_9_330 rfl rfl ?_
  refine s_callV (pc' := 107) (av := [vL 10334396]) (a := 65) (sk := [vI (109 + a2), vR 66]) (kc := 9) dX9_readsClass_104 ml_9_324 okX9_hasWord oiX9_hasWord (by decide) (NF := 39) rfl (fa_t65 sA) rfl (Nat.le_of_ble_eq_true rfl) (Nat.le_refl 0) (Nat.le_refl 0) rfl (CI.on V (fun x2 h1 V => ?_))
  obtain ⟨z3, V⟩ := V
  obtain ⟨V14, V15⟩ := V
  refine s_if_eq (pc' := 110) (tgt := 120) dX9_readsClass_107 rfl rfl z3 (fun c => ?_) (fun c => ?_)
  · have V := V14 c
    refine s_iconst (pc' := 121) dX9_readsClass_120 rfl ?_
    obtain ⟨z4, z5, V⟩ := V
    refine s_iast (pc' := 122) dX9_readsClass_121 (fa_t66 sA) z4 (fa_lt66 sA z5) rfl ?_
    obtain ⟨h6, e7⟩ : ∃ q, q = st h1 66 (109 + a2) (-1) := ⟨_, rfl⟩
    rw [← e7]
    have V := V h6 e7
    exact V
  · have V := V15 c
    refine s_aload_n (pc' := 111) (x := 65) dX9_readsClass_110 rfl rfl ?_
    refine s_iconst (pc' := 112) dX9_readsClass_111 rfl ?_
    refine s_bipush (pc' := 114) dX9_readsClass_112 (by decide) rfl ?_
    refine s_callV (pc' := 117) (av := [vI 0, vI 99]) (a := 65) (sk := [vI (109 + a2), vR 66]) (kc := 9) dX9_readsClass_114 ml_9_332 okX9_numeral oiX9_numeral (by decide) (NF := 39) rfl (fa_t65 sA) rfl (Nat.le_of_ble_eq_true rfl) (Nat.le_refl 0) (Nat.le_refl 0) rfl (CI.on V (fun x9 h8 V => ?_))
    refine s_goto (tgt := 121) dX9_readsClass_117 rfl ?_
    obtain ⟨z10, z11, V⟩ := V
    refine s_iast (pc' := 122) dX9_readsClass_121 (fa_t66 sA) z10 (fa_lt66 sA z11) rfl ?_
    obtain ⟨h12, e13⟩ : ∃ q, q = st h8 66 (109 + a2) x9 := ⟨_, rfl⟩
    rw [← e13]
    have V := V h12 e13
    exact V
set_option maxRecDepth 20000 in
theorem r_X9_readsClass_122 {w : WS} {h : AH} {Q : AH → Prop} {a2 a4 : Int} (sA : shA w) (V : CI mX9_hasWord [vR 65, vL 332864552] w h (fun x2 h1 => (inR x2 ∧ ((x2 = 0 → (0 ≤ (117 + a2) ∧ (117 + a2) < 202 ∧ (∀ h6, h6 = st h1 66 (117 + a2) (-1) → XV mX9_readsClass 152 [some (vR 65), none, some (vI a2), none, some (vL a4), none] [] w h6 Q))) ∧ (¬ x2 = 0 → CI mX9_numeral [vR 65, vI 0, vI 9] w h1 (fun x9 h8 => (0 ≤ (117 + a2) ∧ (117 + a2) < 202 ∧ (∀ h12, h12 = st h8 66 (117 + a2) x9 → XV mX9_readsClass 152 [some (vR 65), none, some (vI a2), none, some (vL a4), none] [] w h12 Q)))))))) : XV mX9_readsClass 122 [some (vR 65), none, some (vI a2), none, some (vL a4), none] [] w h Q := by
  refine s_aload_n (pc' := 123) (x := 65) dX9_readsClass_122 rfl rfl ?_
  refine s_getF (pc' := 126) (b := 66) (kc := 9) (i := 0) dX9_readsClass_123 clX9 (by decide) fl_9_0 (fa_t65 sA) (fa_f9_0 sA) (fun _ => rfl) rfl ?_
  refine s_bipush (pc' := 128) dX9_readsClass_126 (by decide) rfl ?_
  refine s_iload_n (pc' := 129) (x := a2) dX9_readsClass_128 rfl rfl ?_
  refine s_iadd (pc' := 130) dX9_readsClass_129 rfl ?_
  refine s_aload_n (pc' := 131) (x := 65) dX9_readsClass_130 rfl rfl ?_
  refine s_ldc2 (pc' := 134) (x := 332864552) dX9_readsClass_131 cstl_9_335 rfl rfl ?_
  refine s_callV (pc' := 137) (av := [vL 332864552]) (a := 65) (sk := [vI (117 + a2), vR 66]) (kc := 9) dX9_readsClass_134 ml_9_324 okX9_hasWord oiX9_hasWord (by decide) (NF := 39) rfl (fa_t65 sA) rfl (Nat.le_of_ble_eq_true rfl) (Nat.le_refl 0) (Nat.le_refl 0) rfl (CI.on V (fun x2 h1 V => ?_))
  obtain ⟨z3, V⟩ := V
  obtain ⟨V14, V15⟩ := V
  refine s_if_eq (pc' := 140) (tgt := 150) dX9_readsClass_137 rfl rfl z3 (fun c => ?_) (fun c => ?_)
  · have V := V14 c
    refine s_iconst (pc' := 151) dX9_readsClass_150 rfl ?_
    obtain ⟨z4, z5, V⟩ := V
    refine s_iast (pc' := 152) dX9_readsClass_151 (fa_t66 sA) z4 (fa_lt66 sA z5) rfl ?_
    obtain ⟨h6, e7⟩ : ∃ q, q = st h1 66 (117 + a2) (-1) := ⟨_, rfl⟩
    rw [← e7]
    have V := V h6 e7
    exact V
  · have V := V15 c
    refine s_aload_n (pc' := 141) (x := 65) dX9_readsClass_140 rfl rfl ?_
    refine s_iconst (pc' := 142) dX9_readsClass_141 rfl ?_
    refine s_bipush (pc' := 144) dX9_readsClass_142 (by decide) rfl ?_
    refine s_callV (pc' := 147) (av := [vI 0, vI 9]) (a := 65) (sk := [vI (117 + a2), vR 66]) (kc := 9) dX9_readsClass_144 ml_9_332 okX9_numeral oiX9_numeral (by decide) (NF := 39) rfl (fa_t65 sA) rfl (Nat.le_of_ble_eq_true rfl) (Nat.le_refl 0) (Nat.le_refl 0) rfl (CI.on V (fun x9 h8 V => ?_))
    refine s_goto (tgt := 151) dX9_readsClass_147 rfl ?_
    obtain ⟨z10, z11, V⟩ := V
    refine s_iast (pc' := 152) dX9_readsClass_151 (fa_t66 sA) z10 (fa_lt66 sA z11) rfl ?_
    obtain ⟨h12, e13⟩ : ∃ q, q = st h8 66 (117 + a2) x9 := ⟨_, rfl⟩
    rw [← e13]
    have V := V h12 e13
    exact V
set_option maxRecDepth 20000 in
theorem r_X9_readsClass_152 {w : WS} {h : AH} {Q : AH → Prop} {a2 a4 : Int} (sA : shA w) (V : (0 ≤ (8 + a2) ∧ (8 + a2) < 16 ∧ (∀ h3, h3 = st h 68 (8 + a2) a4 → (∀ h5, h5 = st h3 66 197 ((h3 66 197) + 1) → Q h5)))) : XV mX9_readsClass 152 [some (vR 65), none, some (vI a2), none, some (vL a4), none] [] w h Q := by
  refine s_aload_n (pc' := 153) (x := 65) dX9_readsClass_152 rfl rfl ?_
  refine s_getF (pc' := 156) (b := 68) (kc := 9) (i := 2) dX9_readsClass_153 clX9 (by decide) fl_9_2 (fa_t65 sA) (fa_f9_2 sA) (fun _ => rfl) rfl ?_
  refine s_bipush (pc' := 158) dX9_readsClass_156 (by decide) rfl ?_
  refine s_iload_n (pc' := 159) (x := a2) dX9_readsClass_158 rfl rfl ?_
  refine s_iadd (pc' := 160) dX9_readsClass_159 rfl ?_
  refine s_lload (pc' := 162) (x := a4) dX9_readsClass_160 rfl rfl ?_
  obtain ⟨z1, z2, V⟩ := V
  refine s_last (pc' := 163) dX9_readsClass_162 (fa_t68 sA) z1 (fa_lt68 sA z2) rfl ?_
  obtain ⟨h3, e4⟩ : ∃ q, q = st h 68 (8 + a2) a4 := ⟨_, rfl⟩
  rw [← e4]
  have V := V h3 e4
  refine s_aload_n (pc' := 164) (x := 65) dX9_readsClass_163 rfl rfl ?_
  refine s_getF (pc' := 167) (b := 66) (kc := 9) (i := 0) dX9_readsClass_164 clX9 (by decide) fl_9_0 (fa_t65 sA) (fa_f9_0 sA) (fun _ => rfl) rfl ?_
  refine s_sipush (pc' := 170) dX9_readsClass_167 (by decide) rfl ?_
  refine s_dup2 (pc' := 171) dX9_readsClass_170 (by intro _ q; cases q) (by intro _ q; cases q) rfl ?_
  refine s_iald (pc' := 172) dX9_readsClass_171 (fa_t66 sA) (by decide) (fa_lt66 sA (by decide)) rfl ?_
  refine s_iconst (pc' := 173) dX9_readsClass_172 rfl ?_
  refine s_iadd (pc' := 174) dX9_readsClass_173 rfl ?_
  refine s_iast (pc' := 175) dX9_readsClass_174 (fa_t66 sA) (by decide) (fa_lt66 sA (by decide)) rfl ?_
  obtain ⟨h5, e6⟩ : ∃ q, q = st h3 66 197 ((h3 66 197) + 1) := ⟨_, rfl⟩
  rw [← e6]
  have V := V h5 e6
  exact s_vret dX9_readsClass_175 rfl ⟨rfl, rfl, V⟩
theorem e_X9_readsTimer {w : WS} {h : AH} {Q : AH → Prop} {a1 a2 : Int} (X : XV mX9_readsTimer 0 [some (vR 65), some (vI a1), some (vI a2), none, none, none, none] [] w h Q) : CV mX9_readsTimer [vR 65, vI a1, vI a2] w h Q := CA.of (M := mX9_readsTimer) (by decide) rfl (Nat.le_of_ble_eq_true rfl) X
set_option maxRecDepth 20000 in
theorem r_X9_readsTimer_0 {w : WS} {h : AH} {Q : AH → Prop} {a1 a2 : Int} (sA : shA w) (V : (inR (h 66 198) ∧ ((¬ (h 66 198) = 24 → XV mX9_readsTimer 21 [some (vR 65), none, some (vI a2), some (vI (h 66 198)), none, none, none] [] w h Q) ∧ ((h 66 198) = 24 → CV mX9_fails [vR 65, vI 4, vI a1] w h (fun h2 => XV mX9_readsTimer 21 [some (vR 65), none, some (vI a2), some (vI (h 66 198)), none, none, none] [] w h2 Q))))) : XV mX9_readsTimer 0 [some (vR 65), some (vI a1), some (vI a2), none, none, none, none] [] w h Q := by
  refine s_aload_n (pc' := 1) (x := 65) dX9_readsTimer_0 rfl rfl ?_
  refine s_getF (pc' := 4) (b := 66) (kc := 9) (i := 0) dX9_readsTimer_1 clX9 (by decide) fl_9_0 (fa_t65 sA) (fa_f9_0 sA) (fun _ => rfl) rfl ?_
  refine s_sipush (pc' := 7) dX9_readsTimer_4 (by decide) rfl ?_
  refine s_iald (pc' := 8) dX9_readsTimer_7 (fa_t66 sA) (by decide) (fa_lt66 sA (by decide)) rfl ?_
  refine s_istore_n (pc' := 9) (ls' := [some (vR 65), some (vI a1), some (vI a2), some (vI (h 66 198)), none, none, none]) dX9_readsTimer_8 (by decide) rfl rfl ?_
  refine s_iload_n (pc' := 10) (x := (h 66 198)) dX9_readsTimer_9 rfl rfl ?_
  refine s_bipush (pc' := 12) dX9_readsTimer_10 (by decide) rfl ?_
  obtain ⟨z1, V⟩ := V
  obtain ⟨V3, V4⟩ := V
  refine s_icmp_ne (pc' := 15) (tgt := 21) dX9_readsTimer_12 rfl rfl z1 (by decide) (fun c => ?_) (fun c => ?_)
  · have V := V3 c
    refine s_drop 1 (ls' := [some (vR 65), none, some (vI a2), some (vI (h 66 198)), none, none, none]) rfl ?_
    exact V
  · have V := V4 c
    refine s_aload_n (pc' := 16) (x := 65) dX9_readsTimer_15 rfl rfl ?_
    refine s_iconst (pc' := 17) dX9_readsTimer_16 rfl ?_
    refine s_iload_n (pc' := 18) (x := a1) dX9_readsTimer_17 rfl rfl ?_
    refine s_callV (pc' := 21) (av := [vI 4, vI a1]) (a := 65) (sk := []) (kc := 9) dX9_readsTimer_18 ml_9_309 okX9_fails oiX9_fails (by decide) (NF := 39) rfl (fa_t65 sA) rfl (Nat.le_of_ble_eq_true rfl) (Nat.le_refl 0) (Nat.le_refl 0) rfl (CV.on V (fun h2 V => ?_))
    refine s_drop 1 (ls' := [some (vR 65), none, some (vI a2), some (vI (h 66 198)), none, none, none]) rfl ?_
    exact V
set_option maxRecDepth 20000 in
theorem r_X9_readsTimer_21 {w : WS} {h : AH} {Q : AH → Prop} {a2 a3 : Int} (sA : shA w) (V : CI mX9_known [vR 65] w h (fun x2 h1 => (inR a2 ∧ ((a2 = 0 → XV mX9_readsTimer 44 [some (vR 65), none, none, some (vI a3), some (vI x2), some (vI 0), none] [] w h1 Q) ∧ (¬ a2 = 0 → CI mX9_numeral [vR 65, vI 1, vI 60] w h1 (fun x5 h4 => XV mX9_readsTimer 44 [some (vR 65), none, none, some (vI a3), some (vI x2), some (vI x5), none] [] w h4 Q)))))) : XV mX9_readsTimer 21 [some (vR 65), none, some (vI a2), some (vI a3), none, none, none] [] w h Q := by
  refine s_aload_n (pc' := 22) (x := 65) dX9_readsTimer_21 rfl rfl ?_
  refine s_callV (pc' := 25) (av := []) (a := 65) (sk := []) (kc := 9) dX9_readsTimer_22 ml_9_327 okX9_known oiX9_known (by decide) (NF := 39) rfl (fa_t65 sA) rfl (Nat.le_of_ble_eq_true rfl) (Nat.le_refl 0) (Nat.le_refl 0) rfl (CI.on V (fun x2 h1 V => ?_))
  refine s_istore (pc' := 27) (ls' := [some (vR 65), none, some (vI a2), some (vI a3), some (vI x2), none, none]) dX9_readsTimer_25 (by decide) rfl rfl ?_
  refine s_iload_n (pc' := 28) (x := a2) dX9_readsTimer_27 rfl rfl ?_
  obtain ⟨z3, V⟩ := V
  obtain ⟨V6, V7⟩ := V
  refine s_if_eq (pc' := 31) (tgt := 41) dX9_readsTimer_28 rfl rfl z3 (fun c => ?_) (fun c => ?_)
  · have V := V6 c
    refine s_iconst (pc' := 42) dX9_readsTimer_41 rfl ?_
    refine s_istore (pc' := 44) (ls' := [some (vR 65), none, some (vI a2), some (vI a3), some (vI x2), some (vI 0), none]) dX9_readsTimer_42 (by decide) rfl rfl ?_
    refine s_drop 2 (ls' := [some (vR 65), none, none, some (vI a3), some (vI x2), some (vI 0), none]) rfl ?_
    exact V
  · have V := V7 c
    refine s_aload_n (pc' := 32) (x := 65) dX9_readsTimer_31 rfl rfl ?_
    refine s_iconst (pc' := 33) dX9_readsTimer_32 rfl ?_
    refine s_bipush (pc' := 35) dX9_readsTimer_33 (by decide) rfl ?_
    refine s_callV (pc' := 38) (av := [vI 1, vI 60]) (a := 65) (sk := []) (kc := 9) dX9_readsTimer_35 ml_9_332 okX9_numeral oiX9_numeral (by decide) (NF := 39) rfl (fa_t65 sA) rfl (Nat.le_of_ble_eq_true rfl) (Nat.le_refl 0) (Nat.le_refl 0) rfl (CI.on V (fun x5 h4 V => ?_))
    refine s_goto (tgt := 42) dX9_readsTimer_38 rfl ?_
    refine s_istore (pc' := 44) (ls' := [some (vR 65), none, some (vI a2), some (vI a3), some (vI x2), some (vI x5), none]) dX9_readsTimer_42 (by decide) rfl rfl ?_
    refine s_drop 2 (ls' := [some (vR 65), none, none, some (vI a3), some (vI x2), some (vI x5), none]) rfl ?_
    exact V
set_option maxRecDepth 20000 in
theorem r_X9_readsTimer_44 {w : WS} {h : AH} {Q : AH → Prop} {a3 a4 a5 : Int} (sA : shA w) (V : CI mX9_numeral [vR 65, vI 0, vI 300] w h (fun x2 h1 => XV mX9_readsTimer 54 [some (vR 65), none, none, some (vI a3), some (vI a4), some (vI a5), some (vI x2)] [] w h1 Q)) : XV mX9_readsTimer 44 [some (vR 65), none, none, some (vI a3), some (vI a4), some (vI a5), none] [] w h Q := by
  refine s_aload_n (pc' := 45) (x := 65) dX9_readsTimer_44 rfl rfl ?_
  refine s_iconst (pc' := 46) dX9_readsTimer_45 rfl ?_
  refine s_sipush (pc' := 49) dX9_readsTimer_46 (by decide) rfl ?_
  refine s_callV (pc' := 52) (av := [vI 0, vI 300]) (a := 65) (sk := []) (kc := 9) dX9_readsTimer_49 ml_9_332 okX9_numeral oiX9_numeral (by decide) (NF := 39) rfl (fa_t65 sA) rfl (Nat.le_of_ble_eq_true rfl) (Nat.le_refl 0) (Nat.le_refl 0) rfl (CI.on V (fun x2 h1 V => ?_))
  refine s_istore (pc' := 54) (ls' := [some (vR 65), none, none, some (vI a3), some (vI a4), some (vI a5), some (vI x2)]) dX9_readsTimer_52 (by decide) rfl rfl ?_
  exact V
set_option maxRecDepth 20000 in
theorem r_X9_readsTimer_54 {w : WS} {h : AH} {Q : AH → Prop} {a3 a4 a5 a6 : Int} (sA : shA w) (V : (inR (h 65 4) ∧ (((h 65 4 = 0) → (0 ≤ (125 + a3) ∧ (125 + a3) < 202 ∧ (∀ h4, h4 = st h 66 (125 + a3) a4 → (0 ≤ (149 + a3) ∧ (149 + a3) < 202 ∧ (∀ h8, h8 = st h4 66 (149 + a3) a5 → (0 ≤ (173 + a3) ∧ (173 + a3) < 202 ∧ (∀ h12, h12 = st h8 66 (173 + a3) a6 → (∀ h14, h14 = st h12 66 198 ((h12 66 198) + 1) → Q h14)))))))) ∧ (¬ (h 65 4 = 0) → Q h)))) : XV mX9_readsTimer 54 [some (vR 65), none, none, some (vI a3), some (vI a4), some (vI a5), some (vI a6)] [] w h Q := by
  refine s_aload_n (pc' := 55) (x := 65) dX9_readsTimer_54 rfl rfl ?_
  obtain ⟨z1, V⟩ := V
  refine s_callV (pc' := 58) (av := []) (a := 65) (sk := []) (kc := 9) dX9_readsTimer_55 ml_9_299 okX9_isGood oiX9_isGood (by decide) (NF := 39) rfl (fa_t65 sA) rfl (Nat.le_of_ble_eq_true rfl) (Nat.le_refl 0) (Nat.le_refl 0) rfl (CI.eon (c_X9_isGood sA z1) ?_)
  obtain ⟨V16, V17⟩ := V
  refine s_ifne_b (pc' := 61) (tgt := 62) dX9_readsTimer_58 rfl rfl (fun c => ?_) (fun c => ?_)
  · have V := V16 c
    refine s_aload_n (pc' := 63) (x := 65) dX9_readsTimer_62 rfl rfl ?_
    refine s_getF (pc' := 66) (b := 66) (kc := 9) (i := 0) dX9_readsTimer_63 clX9 (by decide) fl_9_0 (fa_t65 sA) (fa_f9_0 sA) (fun _ => rfl) rfl ?_
    refine s_bipush (pc' := 68) dX9_readsTimer_66 (by decide) rfl ?_
    refine s_iload_n (pc' := 69) (x := a3) dX9_readsTimer_68 rfl rfl ?_
    refine s_iadd (pc' := 70) dX9_readsTimer_69 rfl ?_
    refine s_iload (pc' := 72) (x := a4) dX9_readsTimer_70 rfl rfl ?_
    obtain ⟨z2, z3, V⟩ := V
    refine s_iast (pc' := 73) dX9_readsTimer_72 (fa_t66 sA) z2 (fa_lt66 sA z3) rfl ?_
    obtain ⟨h4, e5⟩ : ∃ q, q = st h 66 (125 + a3) a4 := ⟨_, rfl⟩
    rw [← e5]
    have V := V h4 e5
    refine s_aload_n (pc' := 74) (x := 65) dX9_readsTimer_73 rfl rfl ?_
    refine s_getF (pc' := 77) (b := 66) (kc := 9) (i := 0) dX9_readsTimer_74 clX9 (by decide) fl_9_0 (fa_t65 sA) (fa_f9_0 sA) (fun _ => rfl) rfl ?_
    refine s_sipush (pc' := 80) dX9_readsTimer_77 (by decide) rfl ?_
    refine s_iload_n (pc' := 81) (x := a3) dX9_readsTimer_80 rfl rfl ?_
    refine s_iadd (pc' := 82) dX9_readsTimer_81 rfl ?_
    refine s_iload (pc' := 84) (x := a5) dX9_readsTimer_82 rfl rfl ?_
    obtain ⟨z6, z7, V⟩ := V
    refine s_iast (pc' := 85) dX9_readsTimer_84 (fa_t66 sA) z6 (fa_lt66 sA z7) rfl ?_
    obtain ⟨h8, e9⟩ : ∃ q, q = st h4 66 (149 + a3) a5 := ⟨_, rfl⟩
    rw [← e9]
    have V := V h8 e9
    refine s_aload_n (pc' := 86) (x := 65) dX9_readsTimer_85 rfl rfl ?_
    refine s_getF (pc' := 89) (b := 66) (kc := 9) (i := 0) dX9_readsTimer_86 clX9 (by decide) fl_9_0 (fa_t65 sA) (fa_f9_0 sA) (fun _ => rfl) rfl ?_
    refine s_sipush (pc' := 92) dX9_readsTimer_89 (by decide) rfl ?_
    refine s_iload_n (pc' := 93) (x := a3) dX9_readsTimer_92 rfl rfl ?_
    refine s_iadd (pc' := 94) dX9_readsTimer_93 rfl ?_
    refine s_iload (pc' := 96) (x := a6) dX9_readsTimer_94 rfl rfl ?_
    obtain ⟨z10, z11, V⟩ := V
    refine s_iast (pc' := 97) dX9_readsTimer_96 (fa_t66 sA) z10 (fa_lt66 sA z11) rfl ?_
    obtain ⟨h12, e13⟩ : ∃ q, q = st h8 66 (173 + a3) a6 := ⟨_, rfl⟩
    rw [← e13]
    have V := V h12 e13
    refine s_aload_n (pc' := 98) (x := 65) dX9_readsTimer_97 rfl rfl ?_
    refine s_getF (pc' := 101) (b := 66) (kc := 9) (i := 0) dX9_readsTimer_98 clX9 (by decide) fl_9_0 (fa_t65 sA) (fa_f9_0 sA) (fun _ => rfl) rfl ?_
    refine s_sipush (pc' := 104) dX9_readsTimer_101 (by decide) rfl ?_
    refine s_dup2 (pc' := 105) dX9_readsTimer_104 (by intro _ q; cases q) (by intro _ q; cases q) rfl ?_
    refine s_iald (pc' := 106) dX9_readsTimer_105 (fa_t66 sA) (by decide) (fa_lt66 sA (by decide)) rfl ?_
    refine s_iconst (pc' := 107) dX9_readsTimer_106 rfl ?_
    refine s_iadd (pc' := 108) dX9_readsTimer_107 rfl ?_
    refine s_iast (pc' := 109) dX9_readsTimer_108 (fa_t66 sA) (by decide) (fa_lt66 sA (by decide)) rfl ?_
    obtain ⟨h14, e15⟩ : ∃ q, q = st h12 66 198 ((h12 66 198) + 1) := ⟨_, rfl⟩
    rw [← e15]
    have V := V h14 e15
    exact s_vret dX9_readsTimer_109 rfl ⟨rfl, rfl, V⟩
  · have V := V17 c
    exact s_vret dX9_readsTimer_61 rfl ⟨rfl, rfl, V⟩
theorem e_X9_readsLine {w : WS} {h : AH} {Q : AH → Prop} (X : XV mX9_readsLine 0 [some (vR 65), none] [] w h Q) : CV mX9_readsLine [vR 65] w h Q := CA.of (M := mX9_readsLine) (by decide) rfl (Nat.le_of_ble_eq_true rfl) X
set_option maxRecDepth 20000 in
theorem r_X9_readsLine_0 {w : WS} {h : AH} {Q : AH → Prop} (sA : shA w) (V : CI mX9_hasWord [vR 65, vL 1831780] w h (fun x2 h1 => (inR x2 ∧ ((x2 = 0 → CI mX9_hasWord [vR 65, vL 305537] w h1 (fun x5 h4 => (inR x5 ∧ ((x5 = 0 → CI mX9_hasWord [vR 65, vL 3094387] w h4 (fun x8 h7 => (inR x8 ∧ ((x8 = 0 → CI mX9_hasWord [vR 65, vL 175125302] w h7 (fun x11 h10 => (inR x11 ∧ ((x11 = 0 → CI mX9_hasWord [vR 65, vL 8863997] w h10 (fun x14 h13 => (inR x14 ∧ ((x14 = 0 → CI mX9_hasWord [vR 65, vL 388609] w h13 (fun x17 h16 => (inR x17 ∧ ((x17 = 0 → CV mX9_fails [vR 65, vI 1, vI (h16 65 36)] w h16 (fun h19 => XV mX9_readsLine 155 [some (vR 65), none] [] w h19 Q)) ∧ (¬ x17 = 0 → CI mX9_numeral [vR 65, vI 0, vI 20] w h16 (fun x21 h20 => (∀ h22, h22 = st h20 66 201 x21 → XV mX9_readsLine 155 [some (vR 65), none] [] w h22 Q))))))) ∧ (¬ x14 = 0 → CI mX9_numeral [vR 65, vI 1, vI 99] w h13 (fun x27 h26 => (∀ h28, h28 = st h26 66 200 x27 → XV mX9_readsLine 155 [some (vR 65), none] [] w h28 Q))))))) ∧ (¬ x11 = 0 → CI mX9_numeral [vR 65, vI 1, vI 300] w h10 (fun x33 h32 => (∀ h34, h34 = st h32 66 199 x33 → XV mX9_readsLine 155 [some (vR 65), none] [] w h34 Q))))))) ∧ (¬ x8 = 0 → CV mX9_readsTimer [vR 65, vI (h 65 36), vI 1] w h7 (fun h38 => XV mX9_readsLine 155 [some (vR 65), none] [] w h38 Q)))))) ∧ (¬ x5 = 0 → CV mX9_readsTimer [vR 65, vI (h 65 36), vI 0] w h4 (fun h41 => XV mX9_readsLine 155 [some (vR 65), none] [] w h41 Q)))))) ∧ (¬ x2 = 0 → CV mX9_readsClass [vR 65, vI (h 65 36)] w h1 (fun h44 => XV mX9_readsLine 155 [some (vR 65), none] [] w h44 Q)))))) : XV mX9_readsLine 0 [some (vR 65), none] [] w h Q := by
  refine s_aload_n (pc' := 1) (x := 65) dX9_readsLine_0 rfl rfl ?_
  refine s_get (pc' := 4) (v := vI (h 65 36)) (kc := 9) (i := 36) dX9_readsLine_1 clX9 (by decide) fl_9_36 (fa_t65 sA) (fun _ => rfl) rfl ?_
  refine s_istore_n (pc' := 5) (ls' := [some (vR 65), some (vI (h 65 36))]) dX9_readsLine_4 (by decide) rfl rfl ?_
  refine s_aload_n (pc' := 6) (x := 65) dX9_readsLine_5 rfl rfl ?_
  refine s_ldc2 (pc' := 9) (x := 1831780) dX9_readsLine_6 cstl_9_337 rfl rfl ?_
  refine s_callV (pc' := 12) (av := [vL 1831780]) (a := 65) (sk := []) (kc := 9) dX9_readsLine_9 ml_9_324 okX9_hasWord oiX9_hasWord (by decide) (NF := 39) rfl (fa_t65 sA) rfl (Nat.le_of_ble_eq_true rfl) (Nat.le_refl 0) (Nat.le_refl 0) rfl (CI.on V (fun x2 h1 V => ?_))
  obtain ⟨z3, V⟩ := V
  obtain ⟨V45, V46⟩ := V
  refine s_if_eq (pc' := 15) (tgt := 23) dX9_readsLine_12 rfl rfl z3 (fun c => ?_) (fun c => ?_)
  · have V := V45 c
    refine s_aload_n (pc' := 24) (x := 65) dX9_readsLine_23 rfl rfl ?_
    refine s_ldc2 (pc' := 27) (x := 305537) dX9_readsLine_24 cstl_9_342 rfl rfl ?_
    refine s_callV (pc' := 30) (av := [vL 305537]) (a := 65) (sk := []) (kc := 9) dX9_readsLine_27 ml_9_324 okX9_hasWord oiX9_hasWord (by decide) (NF := 39) rfl (fa_t65 sA) rfl (Nat.le_of_ble_eq_true rfl) (Nat.le_refl 0) (Nat.le_refl 0) rfl (CI.on V (fun x5 h4 V => ?_))
    obtain ⟨z6, V⟩ := V
    obtain ⟨V42, V43⟩ := V
    refine s_if_eq (pc' := 33) (tgt := 42) dX9_readsLine_30 rfl rfl z6 (fun c => ?_) (fun c => ?_)
    · have V := V42 c
      refine s_aload_n (pc' := 43) (x := 65) dX9_readsLine_42 rfl rfl ?_
      refine s_ldc2 (pc' := 46) (x := 3094387) dX9_readsLine_43 cstl_9_347 rfl rfl ?_
      refine s_callV (pc' := 49) (av := [vL 3094387]) (a := 65) (sk := []) (kc := 9) dX9_readsLine_46 ml_9_324 okX9_hasWord oiX9_hasWord (by decide) (NF := 39) rfl (fa_t65 sA) rfl (Nat.le_of_ble_eq_true rfl) (Nat.le_refl 0) (Nat.le_refl 0) rfl (CI.on V (fun x8 h7 V => ?_))
      obtain ⟨z9, V⟩ := V
      obtain ⟨V39, V40⟩ := V
      refine s_if_eq (pc' := 52) (tgt := 61) dX9_readsLine_49 rfl rfl z9 (fun c => ?_) (fun c => ?_)
      · have V := V39 c
        refine s_aload_n (pc' := 62) (x := 65) dX9_readsLine_61 rfl rfl ?_
        refine s_ldc2 (pc' := 65) (x := 175125302) dX9_readsLine_62 cstl_9_349 rfl rfl ?_
        refine s_callV (pc' := 68) (av := [vL 175125302]) (a := 65) (sk := []) (kc := 9) dX9_readsLine_65 ml_9_324 okX9_hasWord oiX9_hasWord (by decide) (NF := 39) rfl (fa_t65 sA) rfl (Nat.le_of_ble_eq_true rfl) (Nat.le_refl 0) (Nat.le_refl 0) rfl (CI.on V (fun x11 h10 V => ?_))
        obtain ⟨z12, V⟩ := V
        obtain ⟨V36, V37⟩ := V
        refine s_if_eq (pc' := 71) (tgt := 90) dX9_readsLine_68 rfl rfl z12 (fun c => ?_) (fun c => ?_)
        · have V := V36 c
          refine s_aload_n (pc' := 91) (x := 65) dX9_readsLine_90 rfl rfl ?_
          refine s_ldc2 (pc' := 94) (x := 8863997) dX9_readsLine_91 cstl_9_351 rfl rfl ?_
          refine s_callV (pc' := 97) (av := [vL 8863997]) (a := 65) (sk := []) (kc := 9) dX9_readsLine_94 ml_9_324 okX9_hasWord oiX9_hasWord (by decide) (NF := 39) rfl (fa_t65 sA) rfl (Nat.le_of_ble_eq_true rfl) (Nat.le_refl 0) (Nat.le_refl 0) rfl (CI.on V (fun x14 h13 V => ?_))
          obtain ⟨z15, V⟩ := V
          obtain ⟨V30, V31⟩ := V
          refine s_if_eq (pc' := 100) (tgt := 118) dX9_readsLine_97 rfl rfl z15 (fun c => ?_) (fun c => ?_)
          · have V := V30 c
            refine s_aload_n (pc' := 119) (x := 65) dX9_readsLine_118 rfl rfl ?_
            refine s_ldc2 (pc' := 122) (x := 388609) dX9_readsLine_119 cstl_9_353 rfl rfl ?_
            refine s_callV (pc' := 125) (av := [vL 388609]) (a := 65) (sk := []) (kc := 9) dX9_readsLine_122 ml_9_324 okX9_hasWord oiX9_hasWord (by decide) (NF := 39) rfl (fa_t65 sA) rfl (Nat.le_of_ble_eq_true rfl) (Nat.le_refl 0) (Nat.le_refl 0) rfl (CI.on V (fun x17 h16 V => ?_))
            obtain ⟨z18, V⟩ := V
            obtain ⟨V24, V25⟩ := V
            refine s_if_eq (pc' := 128) (tgt := 146) dX9_readsLine_125 rfl rfl z18 (fun c => ?_) (fun c => ?_)
            · have V := V24 c
              refine s_aload_n (pc' := 147) (x := 65) dX9_readsLine_146 rfl rfl ?_
              refine s_iconst (pc' := 148) dX9_readsLine_147 rfl ?_
              refine s_aload_n (pc' := 149) (x := 65) dX9_readsLine_148 rfl rfl ?_
              refine s_get (pc' := 152) (v := vI (h16 65 36)) (kc := 9) (i := 36) dX9_readsLine_149 clX9 (by decide) fl_9_36 (fa_t65 sA) (fun _ => rfl) rfl ?_
              refine s_callV (pc' := 155) (av := [vI 1, vI (h16 65 36)]) (a := 65) (sk := []) (kc := 9) dX9_readsLine_152 ml_9_309 okX9_fails oiX9_fails (by decide) (NF := 39) rfl (fa_t65 sA) rfl (Nat.le_of_ble_eq_true rfl) (Nat.le_refl 0) (Nat.le_refl 0) rfl (CV.on V (fun h19 V => ?_))
              refine s_drop 1 (ls' := [some (vR 65), none]) rfl ?_
              exact V
            · have V := V25 c
              refine s_aload_n (pc' := 129) (x := 65) dX9_readsLine_128 rfl rfl ?_
              refine s_getF (pc' := 132) (b := 66) (kc := 9) (i := 0) dX9_readsLine_129 clX9 (by decide) fl_9_0 (fa_t65 sA) (fa_f9_0 sA) (fun _ => rfl) rfl ?_
              refine s_sipush (pc' := 135) dX9_readsLine_132 (by decide) rfl ?_
              refine s_aload_n (pc' := 136) (x := 65) dX9_readsLine_135 rfl rfl ?_
              refine s_iconst (pc' := 137) dX9_readsLine_136 rfl ?_
              refine s_bipush (pc' := 139) dX9_readsLine_137 (by decide) rfl ?_
              refine s_callV (pc' := 142) (av := [vI 0, vI 20]) (a := 65) (sk := [vI 201, vR 66]) (kc := 9) dX9_readsLine_139 ml_9_332 okX9_numeral oiX9_numeral (by decide) (NF := 39) rfl (fa_t65 sA) rfl (Nat.le_of_ble_eq_true rfl) (Nat.le_refl 0) (Nat.le_refl 0) rfl (CI.on V (fun x21 h20 V => ?_))
              refine s_iast (pc' := 143) dX9_readsLine_142 (fa_t66 sA) (by decide) (fa_lt66 sA (by decide)) rfl ?_
              obtain ⟨h22, e23⟩ : ∃ q, q = st h20 66 201 x21 := ⟨_, rfl⟩
              rw [← e23]
              have V := V h22 e23
              refine s_goto (tgt := 155) dX9_readsLine_143 rfl ?_
              refine s_drop 1 (ls' := [some (vR 65), none]) rfl ?_
              exact V
          · have V := V31 c
            refine s_aload_n (pc' := 101) (x := 65) dX9_readsLine_100 rfl rfl ?_
            refine s_getF (pc' := 104) (b := 66) (kc := 9) (i := 0) dX9_readsLine_101 clX9 (by decide) fl_9_0 (fa_t65 sA) (fa_f9_0 sA) (fun _ => rfl) rfl ?_
            refine s_sipush (pc' := 107) dX9_readsLine_104 (by decide) rfl ?_
            refine s_aload_n (pc' := 108) (x := 65) dX9_readsLine_107 rfl rfl ?_
            refine s_iconst (pc' := 109) dX9_readsLine_108 rfl ?_
            refine s_bipush (pc' := 111) dX9_readsLine_109 (by decide) rfl ?_
            refine s_callV (pc' := 114) (av := [vI 1, vI 99]) (a := 65) (sk := [vI 200, vR 66]) (kc := 9) dX9_readsLine_111 ml_9_332 okX9_numeral oiX9_numeral (by decide) (NF := 39) rfl (fa_t65 sA) rfl (Nat.le_of_ble_eq_true rfl) (Nat.le_refl 0) (Nat.le_refl 0) rfl (CI.on V (fun x27 h26 V => ?_))
            refine s_iast (pc' := 115) dX9_readsLine_114 (fa_t66 sA) (by decide) (fa_lt66 sA (by decide)) rfl ?_
            obtain ⟨h28, e29⟩ : ∃ q, q = st h26 66 200 x27 := ⟨_, rfl⟩
            rw [← e29]
            have V := V h28 e29
            refine s_goto (tgt := 155) dX9_readsLine_115 rfl ?_
            refine s_drop 1 (ls' := [some (vR 65), none]) rfl ?_
            exact V
        · have V := V37 c
          refine s_aload_n (pc' := 72) (x := 65) dX9_readsLine_71 rfl rfl ?_
          refine s_getF (pc' := 75) (b := 66) (kc := 9) (i := 0) dX9_readsLine_72 clX9 (by decide) fl_9_0 (fa_t65 sA) (fa_f9_0 sA) (fun _ => rfl) rfl ?_
          refine s_sipush (pc' := 78) dX9_readsLine_75 (by decide) rfl ?_
          refine s_aload_n (pc' := 79) (x := 65) dX9_readsLine_78 rfl rfl ?_
          refine s_iconst (pc' := 80) dX9_readsLine_79 rfl ?_
          refine s_sipush (pc' := 83) dX9_readsLine_80 (by decide) rfl ?_
          refine s_callV (pc' := 86) (av := [vI 1, vI 300]) (a := 65) (sk := [vI 199, vR 66]) (kc := 9) dX9_readsLine_83 ml_9_332 okX9_numeral oiX9_numeral (by decide) (NF := 39) rfl (fa_t65 sA) rfl (Nat.le_of_ble_eq_true rfl) (Nat.le_refl 0) (Nat.le_refl 0) rfl (CI.on V (fun x33 h32 V => ?_))
          refine s_iast (pc' := 87) dX9_readsLine_86 (fa_t66 sA) (by decide) (fa_lt66 sA (by decide)) rfl ?_
          obtain ⟨h34, e35⟩ : ∃ q, q = st h32 66 199 x33 := ⟨_, rfl⟩
          rw [← e35]
          have V := V h34 e35
          refine s_goto (tgt := 155) dX9_readsLine_87 rfl ?_
          refine s_drop 1 (ls' := [some (vR 65), none]) rfl ?_
          exact V
      · have V := V40 c
        refine s_aload_n (pc' := 53) (x := 65) dX9_readsLine_52 rfl rfl ?_
        refine s_iload_n (pc' := 54) (x := (h 65 36)) dX9_readsLine_53 rfl rfl ?_
        refine s_iconst (pc' := 55) dX9_readsLine_54 rfl ?_
        refine s_callV (pc' := 58) (av := [vI (h 65 36), vI 1]) (a := 65) (sk := []) (kc := 9) dX9_readsLine_55 ml_9_344 okX9_readsTimer oiX9_readsTimer (by decide) (NF := 39) rfl (fa_t65 sA) rfl (Nat.le_of_ble_eq_true rfl) (Nat.le_refl 0) (Nat.le_refl 0) rfl (CV.on V (fun h38 V => ?_))
        refine s_goto (tgt := 155) dX9_readsLine_58 rfl ?_
        refine s_drop 1 (ls' := [some (vR 65), none]) rfl ?_
        exact V
    · have V := V43 c
      refine s_aload_n (pc' := 34) (x := 65) dX9_readsLine_33 rfl rfl ?_
      refine s_iload_n (pc' := 35) (x := (h 65 36)) dX9_readsLine_34 rfl rfl ?_
      refine s_iconst (pc' := 36) dX9_readsLine_35 rfl ?_
      refine s_callV (pc' := 39) (av := [vI (h 65 36), vI 0]) (a := 65) (sk := []) (kc := 9) dX9_readsLine_36 ml_9_344 okX9_readsTimer oiX9_readsTimer (by decide) (NF := 39) rfl (fa_t65 sA) rfl (Nat.le_of_ble_eq_true rfl) (Nat.le_refl 0) (Nat.le_refl 0) rfl (CV.on V (fun h41 V => ?_))
      refine s_goto (tgt := 155) dX9_readsLine_39 rfl ?_
      refine s_drop 1 (ls' := [some (vR 65), none]) rfl ?_
      exact V
  · have V := V46 c
    refine s_aload_n (pc' := 16) (x := 65) dX9_readsLine_15 rfl rfl ?_
    refine s_iload_n (pc' := 17) (x := (h 65 36)) dX9_readsLine_16 rfl rfl ?_
    refine s_callV (pc' := 20) (av := [vI (h 65 36)]) (a := 65) (sk := []) (kc := 9) dX9_readsLine_17 ml_9_339 okX9_readsClass oiX9_readsClass (by decide) (NF := 39) rfl (fa_t65 sA) rfl (Nat.le_of_ble_eq_true rfl) (Nat.le_refl 0) (Nat.le_refl 0) rfl (CV.on V (fun h44 V => ?_))
    refine s_goto (tgt := 155) dX9_readsLine_20 rfl ?_
    refine s_drop 1 (ls' := [some (vR 65), none]) rfl ?_
    exact V
set_option maxRecDepth 20000 in
theorem r_X9_readsLine_155 {w : WS} {h : AH} {Q : AH → Prop} (sA : shA w) (V : (inR (h 65 4) ∧ (((h 65 4 = 0) → (inR (h 65 35) ∧ ((¬ (h 65 35) = 3 → CV mX9_fails [vR 65, vI 1, vI (h 65 36)] w h (fun h3 => Q h3)) ∧ ((h 65 35) = 3 → CV mX9_takes [vR 65] w h (fun h4 => Q h4))))) ∧ (¬ (h 65 4 = 0) → Q h)))) : XV mX9_readsLine 155 [some (vR 65), none] [] w h Q := by
  refine s_aload_n (pc' := 156) (x := 65) dX9_readsLine_155 rfl rfl ?_
  obtain ⟨z1, V⟩ := V
  refine s_callV (pc' := 159) (av := []) (a := 65) (sk := []) (kc := 9) dX9_readsLine_156 ml_9_299 okX9_isGood oiX9_isGood (by decide) (NF := 39) rfl (fa_t65 sA) rfl (Nat.le_of_ble_eq_true rfl) (Nat.le_refl 0) (Nat.le_refl 0) rfl (CI.eon (c_X9_isGood sA z1) ?_)
  obtain ⟨V7, V8⟩ := V
  refine s_ifne_b (pc' := 162) (tgt := 163) dX9_readsLine_159 rfl rfl (fun c => ?_) (fun c => ?_)
  · have V := V7 c
    refine s_aload_n (pc' := 164) (x := 65) dX9_readsLine_163 rfl rfl ?_
    refine s_get (pc' := 167) (v := vI (h 65 35)) (kc := 9) (i := 35) dX9_readsLine_164 clX9 (by decide) fl_9_35 (fa_t65 sA) (fun _ => rfl) rfl ?_
    refine s_iconst (pc' := 168) dX9_readsLine_167 rfl ?_
    obtain ⟨z2, V⟩ := V
    obtain ⟨V5, V6⟩ := V
    refine s_icmp_ne (pc' := 171) (tgt := 178) dX9_readsLine_168 rfl rfl z2 (by decide) (fun c => ?_) (fun c => ?_)
    · have V := V5 c
      refine s_aload_n (pc' := 179) (x := 65) dX9_readsLine_178 rfl rfl ?_
      refine s_iconst (pc' := 180) dX9_readsLine_179 rfl ?_
      refine s_aload_n (pc' := 181) (x := 65) dX9_readsLine_180 rfl rfl ?_
      refine s_get (pc' := 184) (v := vI (h 65 36)) (kc := 9) (i := 36) dX9_readsLine_181 clX9 (by decide) fl_9_36 (fa_t65 sA) (fun _ => rfl) rfl ?_
      refine s_callV (pc' := 187) (av := [vI 1, vI (h 65 36)]) (a := 65) (sk := []) (kc := 9) dX9_readsLine_184 ml_9_309 okX9_fails oiX9_fails (by decide) (NF := 39) rfl (fa_t65 sA) rfl (Nat.le_of_ble_eq_true rfl) (Nat.le_refl 0) (Nat.le_refl 0) rfl (CV.on V (fun h3 V => ?_))
      exact s_vret dX9_readsLine_187 rfl ⟨rfl, rfl, V⟩
    · have V := V6 c
      refine s_aload_n (pc' := 172) (x := 65) dX9_readsLine_171 rfl rfl ?_
      refine s_callV (pc' := 175) (av := []) (a := 65) (sk := []) (kc := 9) dX9_readsLine_172 ml_9_306 okX9_takes oiX9_takes (by decide) (NF := 39) rfl (fa_t65 sA) rfl (Nat.le_of_ble_eq_true rfl) (Nat.le_refl 0) (Nat.le_refl 0) rfl (CV.on V (fun h4 V => ?_))
      refine s_goto (tgt := 187) dX9_readsLine_175 rfl ?_
      exact s_vret dX9_readsLine_187 rfl ⟨rfl, rfl, V⟩
  · have V := V8 c
    exact s_vret dX9_readsLine_162 rfl ⟨rfl, rfl, V⟩
theorem e_X9_text {w : WS} {h : AH} {Q : Int → AH → Prop} (X : XI mX9_text 0 [some (vR 65), none] [] w h Q) : CI mX9_text [vR 65] w h Q := CA.of (M := mX9_text) (by decide) rfl (Nat.le_of_ble_eq_true rfl) X
set_option maxRecDepth 20000 in
theorem r_X9_text_0 {w : WS} {h : AH} {Q : Int → AH → Prop} (sA : shA w) (V : (∀ h1, h1 = st h 65 33 (h 65 3) → (∀ h3, h3 = st h1 65 3 0 → (∀ h5, h5 = st h3 65 4 0 → (∀ h7, h7 = st h5 65 5 (-1) → (∀ h9, h9 = st h7 65 34 0 → CV mX9_firsts [vR 65, vI 101] w h9 (fun h11 => CV mX9_takes [vR 65] w h11 (fun h12 => XI mX9_text 38 [some (vR 65), none] [] w h12 Q)))))))) : XI mX9_text 0 [some (vR 65), none] [] w h Q := by
  refine s_aload_n (pc' := 1) (x := 65) dX9_text_0 rfl rfl ?_
  refine s_aload_n (pc' := 2) (x := 65) dX9_text_1 rfl rfl ?_
  refine s_get (pc' := 5) (v := vI (h 65 3)) (kc := 9) (i := 3) dX9_text_2 clX9 (by decide) fl_9_3 (fa_t65 sA) (fun _ => rfl) rfl ?_
  refine s_put (pc' := 8) (v := vI (h 65 3)) (x := (h 65 3)) (kc := 9) (i := 33) dX9_text_5 clX9 (by decide) fl_9_33 rfl (fa_t65 sA) (fun E => nar_int E _) (fun _ _ => rfl) (j0 := 33) rfl rfl ?_
  obtain ⟨h1, e2⟩ : ∃ q, q = st h 65 33 (h 65 3) := ⟨_, rfl⟩
  rw [← e2]
  have V := V h1 e2
  refine s_aload_n (pc' := 9) (x := 65) dX9_text_8 rfl rfl ?_
  refine s_iconst (pc' := 10) dX9_text_9 rfl ?_
  refine s_put (pc' := 13) (v := vI 0) (x := 0) (kc := 9) (i := 3) dX9_text_10 clX9 (by decide) fl_9_3 rfl (fa_t65 sA) (fun E => nar_int E _) (fun _ _ => rfl) (j0 := 3) rfl rfl ?_
  obtain ⟨h3, e4⟩ : ∃ q, q = st h1 65 3 0 := ⟨_, rfl⟩
  rw [← e4]
  have V := V h3 e4
  refine s_aload_n (pc' := 14) (x := 65) dX9_text_13 rfl rfl ?_
  refine s_iconst (pc' := 15) dX9_text_14 rfl ?_
  refine s_put (pc' := 18) (v := vI 0) (x := 0) (kc := 9) (i := 4) dX9_text_15 clX9 (by decide) fl_9_4 rfl (fa_t65 sA) (fun E => nar_int E _) (fun _ _ => rfl) (j0 := 4) rfl rfl ?_
  obtain ⟨h5, e6⟩ : ∃ q, q = st h3 65 4 0 := ⟨_, rfl⟩
  rw [← e6]
  have V := V h5 e6
  refine s_aload_n (pc' := 19) (x := 65) dX9_text_18 rfl rfl ?_
  refine s_iconst (pc' := 20) dX9_text_19 rfl ?_
  refine s_put (pc' := 23) (v := vI (-1)) (x := (-1)) (kc := 9) (i := 5) dX9_text_20 clX9 (by decide) fl_9_5 rfl (fa_t65 sA) (fun E => nar_int E _) (fun _ _ => rfl) (j0 := 5) rfl rfl ?_
  obtain ⟨h7, e8⟩ : ∃ q, q = st h5 65 5 (-1) := ⟨_, rfl⟩
  rw [← e8]
  have V := V h7 e8
  refine s_aload_n (pc' := 24) (x := 65) dX9_text_23 rfl rfl ?_
  refine s_iconst (pc' := 25) dX9_text_24 rfl ?_
  refine s_put (pc' := 28) (v := vI 0) (x := 0) (kc := 9) (i := 34) dX9_text_25 clX9 (by decide) fl_9_34 rfl (fa_t65 sA) (fun E => nar_int E _) (fun _ _ => rfl) (j0 := 34) rfl rfl ?_
  obtain ⟨h9, e10⟩ : ∃ q, q = st h7 65 34 0 := ⟨_, rfl⟩
  rw [← e10]
  have V := V h9 e10
  refine s_aload_n (pc' := 29) (x := 65) dX9_text_28 rfl rfl ?_
  refine s_bipush (pc' := 31) dX9_text_29 (by decide) rfl ?_
  refine s_callV (pc' := 34) (av := [vI 101]) (a := 65) (sk := []) (kc := 9) dX9_text_31 ml_9_66 okX9_firsts oiX9_firsts (by decide) (NF := 39) rfl (fa_t65 sA) rfl (Nat.le_of_ble_eq_true rfl) (Nat.le_refl 0) (Nat.le_refl 0) rfl (CV.on V (fun h11 V => ?_))
  refine s_aload_n (pc' := 35) (x := 65) dX9_text_34 rfl rfl ?_
  refine s_callV (pc' := 38) (av := []) (a := 65) (sk := []) (kc := 9) dX9_text_35 ml_9_306 okX9_takes oiX9_takes (by decide) (NF := 39) rfl (fa_t65 sA) rfl (Nat.le_of_ble_eq_true rfl) (Nat.le_refl 0) (Nat.le_refl 0) rfl (CV.on V (fun h12 V => ?_))
  exact V
set_option maxRecDepth 20000 in
theorem r_X9_text_38 {w : WS} {h : AH} {Q : Int → AH → Prop} (sA : shA w) (V : (inR (h 65 4) ∧ ((¬ (h 65 4 = 0) → XI mX9_text 59 [some (vR 65), none] [] w h Q) ∧ ((h 65 4 = 0) → (inR (h 65 35) ∧ (((h 65 35) = 0 → XI mX9_text 59 [some (vR 65), none] [] w h Q) ∧ (¬ (h 65 35) = 0 → CV mX9_readsLine [vR 65] w h (fun h3 => XI mX9_text 38 [some (vR 65), none] [] w h3 Q)))))))) : XI mX9_text 38 [some (vR 65), none] [] w h Q := by
  refine s_aload_n (pc' := 39) (x := 65) dX9_text_38 rfl rfl ?_
  obtain ⟨z1, V⟩ := V
  refine s_callV (pc' := 42) (av := []) (a := 65) (sk := []) (kc := 9) dX9_text_39 ml_9_299 okX9_isGood oiX9_isGood (by decide) (NF := 39) rfl (fa_t65 sA) rfl (Nat.le_of_ble_eq_true rfl) (Nat.le_refl 0) (Nat.le_refl 0) rfl (CI.eon (c_X9_isGood sA z1) ?_)
  obtain ⟨V6, V7⟩ := V
  refine s_ifeq_b (pc' := 45) (tgt := 59) dX9_text_42 rfl rfl (fun c => ?_) (fun c => ?_)
  · have V := V6 c
    exact V
  · have V := V7 c
    refine s_aload_n (pc' := 46) (x := 65) dX9_text_45 rfl rfl ?_
    refine s_get (pc' := 49) (v := vI (h 65 35)) (kc := 9) (i := 35) dX9_text_46 clX9 (by decide) fl_9_35 (fa_t65 sA) (fun _ => rfl) rfl ?_
    obtain ⟨z2, V⟩ := V
    obtain ⟨V4, V5⟩ := V
    refine s_if_eq (pc' := 52) (tgt := 59) dX9_text_49 rfl rfl z2 (fun c => ?_) (fun c => ?_)
    · have V := V4 c
      exact V
    · have V := V5 c
      refine s_aload_n (pc' := 53) (x := 65) dX9_text_52 rfl rfl ?_
      refine s_callV (pc' := 56) (av := []) (a := 65) (sk := []) (kc := 9) dX9_text_53 ml_9_355 okX9_readsLine oiX9_readsLine (by decide) (NF := 39) rfl (fa_t65 sA) rfl (Nat.le_of_ble_eq_true rfl) (Nat.le_refl 0) (Nat.le_refl 0) rfl (CV.on V (fun h3 V => ?_))
      refine s_goto (tgt := 38) dX9_text_56 rfl ?_
      exact V
set_option maxRecDepth 20000 in
theorem r_X9_text_59 {w : WS} {h : AH} {Q : Int → AH → Prop} (sA : shA w) (V : (inR (h 65 4) ∧ ((¬ (h 65 4 = 0) → XI mX9_text 85 [some (vR 65), none] [] w h Q) ∧ ((h 65 4 = 0) → CI mX9_readCalls [vR 65] w h (fun x3 h2 => (inR x3 ∧ ((x3 ≤ 200 → XI mX9_text 85 [some (vR 65), none] [] w h2 Q) ∧ (¬ x3 ≤ 200 → CV mX9_fails [vR 65, vI 5, vI (h2 65 33)] w h2 (fun h5 => XI mX9_text 85 [some (vR 65), none] [] w h5 Q))))))))) : XI mX9_text 59 [some (vR 65), none] [] w h Q := by
  refine s_aload_n (pc' := 60) (x := 65) dX9_text_59 rfl rfl ?_
  obtain ⟨z1, V⟩ := V
  refine s_callV (pc' := 63) (av := []) (a := 65) (sk := []) (kc := 9) dX9_text_60 ml_9_299 okX9_isGood oiX9_isGood (by decide) (NF := 39) rfl (fa_t65 sA) rfl (Nat.le_of_ble_eq_true rfl) (Nat.le_refl 0) (Nat.le_refl 0) rfl (CI.eon (c_X9_isGood sA z1) ?_)
  obtain ⟨V8, V9⟩ := V
  refine s_ifeq_b (pc' := 66) (tgt := 85) dX9_text_63 rfl rfl (fun c => ?_) (fun c => ?_)
  · have V := V8 c
    exact V
  · have V := V9 c
    refine s_aload_n (pc' := 67) (x := 65) dX9_text_66 rfl rfl ?_
    refine s_callV (pc' := 70) (av := []) (a := 65) (sk := []) (kc := 9) dX9_text_67 ml_9_358 okX9_readCalls oiX9_readCalls (by decide) (NF := 39) rfl (fa_t65 sA) rfl (Nat.le_of_ble_eq_true rfl) (Nat.le_refl 0) (Nat.le_refl 0) rfl (CI.on V (fun x3 h2 V => ?_))
    refine s_sipush (pc' := 73) dX9_text_70 (by decide) rfl ?_
    obtain ⟨z4, V⟩ := V
    obtain ⟨V6, V7⟩ := V
    refine s_icmp_le (pc' := 76) (tgt := 85) dX9_text_73 rfl rfl z4 (by decide) (fun c => ?_) (fun c => ?_)
    · have V := V6 c
      exact V
    · have V := V7 c
      refine s_aload_n (pc' := 77) (x := 65) dX9_text_76 rfl rfl ?_
      refine s_iconst (pc' := 78) dX9_text_77 rfl ?_
      refine s_aload_n (pc' := 79) (x := 65) dX9_text_78 rfl rfl ?_
      refine s_get (pc' := 82) (v := vI (h2 65 33)) (kc := 9) (i := 33) dX9_text_79 clX9 (by decide) fl_9_33 (fa_t65 sA) (fun _ => rfl) rfl ?_
      refine s_callV (pc' := 85) (av := [vI 5, vI (h2 65 33)]) (a := 65) (sk := []) (kc := 9) dX9_text_82 ml_9_309 okX9_fails oiX9_fails (by decide) (NF := 39) rfl (fa_t65 sA) rfl (Nat.le_of_ble_eq_true rfl) (Nat.le_refl 0) (Nat.le_refl 0) rfl (CV.on V (fun h5 V => ?_))
      exact V
set_option maxRecDepth 20000 in
theorem r_X9_text_85 {w : WS} {h : AH} {Q : Int → AH → Prop} (sA : shA w) (V : (inR (h 65 4) ∧ (((h 65 4 = 0) → XI mX9_text 96 [some (vR 65), some (vI 0)] [] w h Q) ∧ (¬ (h 65 4 = 0) → Q (-1) h)))) : XI mX9_text 85 [some (vR 65), none] [] w h Q := by
  refine s_aload_n (pc' := 86) (x := 65) dX9_text_85 rfl rfl ?_
  obtain ⟨z1, V⟩ := V
  refine s_callV (pc' := 89) (av := []) (a := 65) (sk := []) (kc := 9) dX9_text_86 ml_9_299 okX9_isGood oiX9_isGood (by decide) (NF := 39) rfl (fa_t65 sA) rfl (Nat.le_of_ble_eq_true rfl) (Nat.le_refl 0) (Nat.le_refl 0) rfl (CI.eon (c_X9_isGood sA z1) ?_)
  obtain ⟨V2, V3⟩ := V
  refine s_ifne_b (pc' := 92) (tgt := 94) dX9_text_89 rfl rfl (fun c => ?_) (fun c => ?_)
  · have V := V2 c
    refine s_iconst (pc' := 95) dX9_text_94 rfl ?_
    refine s_istore_n (pc' := 96) (ls' := [some (vR 65), some (vI 0)]) dX9_text_95 (by decide) rfl rfl ?_
    exact V
  · have V := V3 c
    refine s_iconst (pc' := 93) dX9_text_92 rfl ?_
    exact s_iret dX9_text_93 rfl ⟨_, rfl, rfl, V⟩
set_option maxRecDepth 20000 in
theorem r_X9_text_96 {w : WS} {h : AH} {Q : Int → AH → Prop} {a1 : Int} (sA : shA w) (V : (inR a1 ∧ ((101 ≤ a1 → XI mX9_text 125 [some (vR 65), some (vI 0)] [] w h Q) ∧ (¬ 101 ≤ a1 → (0 ≤ (101 + a1) ∧ (101 + a1) < 202 ∧ (0 ≤ a1 ∧ a1 < 202 ∧ (∀ h6, h6 = st h 66 a1 (h 66 (101 + a1)) → XI mX9_text 96 [some (vR 65), some (vI (a1 + 1))] [] w h6 Q))))))) : XI mX9_text 96 [some (vR 65), some (vI a1)] [] w h Q := by
  refine s_iload_n (pc' := 97) (x := a1) dX9_text_96 rfl rfl ?_
  refine s_bipush (pc' := 99) dX9_text_97 (by decide) rfl ?_
  obtain ⟨z1, V⟩ := V
  obtain ⟨V8, V9⟩ := V
  refine s_icmp_ge (pc' := 102) (tgt := 123) dX9_text_99 rfl rfl z1 (by decide) (fun c => ?_) (fun c => ?_)
  · have V := V8 c
    refine s_iconst (pc' := 124) dX9_text_123 rfl ?_
    refine s_istore_n (pc' := 125) (ls' := [some (vR 65), some (vI 0)]) dX9_text_124 (by decide) rfl rfl ?_
    exact V
  · have V := V9 c
    refine s_aload_n (pc' := 103) (x := 65) dX9_text_102 rfl rfl ?_
    refine s_getF (pc' := 106) (b := 66) (kc := 9) (i := 0) dX9_text_103 clX9 (by decide) fl_9_0 (fa_t65 sA) (fa_f9_0 sA) (fun _ => rfl) rfl ?_
    refine s_iload_n (pc' := 107) (x := a1) dX9_text_106 rfl rfl ?_
    refine s_aload_n (pc' := 108) (x := 65) dX9_text_107 rfl rfl ?_
    refine s_getF (pc' := 111) (b := 66) (kc := 9) (i := 0) dX9_text_108 clX9 (by decide) fl_9_0 (fa_t65 sA) (fa_f9_0 sA) (fun _ => rfl) rfl ?_
    refine s_bipush (pc' := 113) dX9_text_111 (by decide) rfl ?_
    refine s_iload_n (pc' := 114) (x := a1) dX9_text_113 rfl rfl ?_
    refine s_iadd (pc' := 115) dX9_text_114 rfl ?_
    obtain ⟨z2, z3, V⟩ := V
    refine s_iald (pc' := 116) dX9_text_115 (fa_t66 sA) z2 (fa_lt66 sA z3) rfl ?_
    obtain ⟨z4, z5, V⟩ := V
    refine s_iast (pc' := 117) dX9_text_116 (fa_t66 sA) z4 (fa_lt66 sA z5) rfl ?_
    obtain ⟨h6, e7⟩ : ∃ q, q = st h 66 a1 (h 66 (101 + a1)) := ⟨_, rfl⟩
    rw [← e7]
    have V := V h6 e7
    refine s_iinc (pc' := 120) (ls' := [some (vR 65), some (vI (a1 + 1))]) dX9_text_117 rfl (by decide) rfl rfl ?_
    refine s_goto (tgt := 96) dX9_text_120 rfl ?_
    exact V
set_option maxRecDepth 20000 in
theorem r_X9_text_125 {w : WS} {h : AH} {Q : Int → AH → Prop} {a1 : Int} (sA : shA w) (V : (inR a1 ∧ ((8 ≤ a1 → CV mX9_begins [vR 65] w h (fun h2 => Q (h2 66 97) h2)) ∧ (¬ 8 ≤ a1 → (0 ≤ (8 + a1) ∧ (8 + a1) < 16 ∧ (0 ≤ a1 ∧ a1 < 16 ∧ (∀ h7, h7 = st h 68 a1 (h 68 (8 + a1)) → XI mX9_text 125 [some (vR 65), some (vI (a1 + 1))] [] w h7 Q))))))) : XI mX9_text 125 [some (vR 65), some (vI a1)] [] w h Q := by
  refine s_iload_n (pc' := 126) (x := a1) dX9_text_125 rfl rfl ?_
  refine s_bipush (pc' := 128) dX9_text_126 (by decide) rfl ?_
  obtain ⟨z1, V⟩ := V
  obtain ⟨V9, V10⟩ := V
  refine s_icmp_ge (pc' := 131) (tgt := 152) dX9_text_128 rfl rfl z1 (by decide) (fun c => ?_) (fun c => ?_)
  · have V := V9 c
    refine s_aload_n (pc' := 153) (x := 65) dX9_text_152 rfl rfl ?_
    refine s_callV (pc' := 156) (av := []) (a := 65) (sk := []) (kc := 9) dX9_text_153 ml_9_70 okX9_begins oiX9_begins (by decide) (NF := 39) rfl (fa_t65 sA) rfl (Nat.le_of_ble_eq_true rfl) (Nat.le_refl 0) (Nat.le_refl 0) rfl (CV.on V (fun h2 V => ?_))
    refine s_aload_n (pc' := 157) (x := 65) dX9_text_156 rfl rfl ?_
    refine s_callV (pc' := 160) (av := []) (a := 65) (sk := []) (kc := 9) dX9_text_157 ml_9_88 okX9_timers oiX9_timers (by decide) (NF := 39) rfl (fa_t65 sA) rfl (Nat.le_of_ble_eq_true rfl) (Nat.le_refl 0) (Nat.le_refl 0) rfl (CI.eon (c_X9_timers sA) ?_)
    exact s_iret dX9_text_160 rfl ⟨_, rfl, rfl, V⟩
  · have V := V10 c
    refine s_aload_n (pc' := 132) (x := 65) dX9_text_131 rfl rfl ?_
    refine s_getF (pc' := 135) (b := 68) (kc := 9) (i := 2) dX9_text_132 clX9 (by decide) fl_9_2 (fa_t65 sA) (fa_f9_2 sA) (fun _ => rfl) rfl ?_
    refine s_iload_n (pc' := 136) (x := a1) dX9_text_135 rfl rfl ?_
    refine s_aload_n (pc' := 137) (x := 65) dX9_text_136 rfl rfl ?_
    refine s_getF (pc' := 140) (b := 68) (kc := 9) (i := 2) dX9_text_137 clX9 (by decide) fl_9_2 (fa_t65 sA) (fa_f9_2 sA) (fun _ => rfl) rfl ?_
    refine s_bipush (pc' := 142) dX9_text_140 (by decide) rfl ?_
    refine s_iload_n (pc' := 143) (x := a1) dX9_text_142 rfl rfl ?_
    refine s_iadd (pc' := 144) dX9_text_143 rfl ?_
    obtain ⟨z3, z4, V⟩ := V
    refine s_lald (pc' := 145) dX9_text_144 (fa_t68 sA) z3 (fa_lt68 sA z4) rfl ?_
    obtain ⟨z5, z6, V⟩ := V
    refine s_last (pc' := 146) dX9_text_145 (fa_t68 sA) z5 (fa_lt68 sA z6) rfl ?_
    obtain ⟨h7, e8⟩ : ∃ q, q = st h 68 a1 (h 68 (8 + a1)) := ⟨_, rfl⟩
    rw [← e8]
    have V := V h7 e8
    refine s_iinc (pc' := 149) (ls' := [some (vR 65), some (vI (a1 + 1))]) dX9_text_146 rfl (by decide) rfl rfl ?_
    refine s_goto (tgt := 125) dX9_text_149 rfl ?_
    exact V
