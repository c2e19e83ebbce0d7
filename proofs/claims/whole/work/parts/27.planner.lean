/-! ===== WakeSaver$Planner ===== -/
def shPlan (w : WS) (p : Int) : Prop := wt w p = 12 ∧ wf w p 0 = p + 1 ∧ wf w p 1 = p + 2 ∧ wf w p 2 = p + 3 ∧ (wt w (p + 1) = 1 ∧ wt w (p + 2) = 1 ∧ wt w (p + 3) = 1) ∧ (wl w (p + 1) = 302 ∧ wl w (p + 2) = 302 ∧ wl w (p + 3) = 302)
theorem e_X2_makeFewest {w : WS} {h : AH} {Q : AH → Prop} {a0 a1 a2 : Int} (X : XV mX2_makeFewest 0 [some (vR a0), some (vR a1), some (vR a2), none, none, none] [] w h Q) : CV mX2_makeFewest [vR a0, vR a1, vR a2] w h Q := CA.of (M := mX2_makeFewest) (by decide) rfl (Nat.le_of_ble_eq_true rfl) X
set_option maxRecDepth 20000 in
theorem r_X2_makeFewest_0 {w : WS} {h : AH} {Q : AH → Prop} {a0 a1 a2 : Int} (V : (wt w a1 = 10 ∧ (inR (h a1 4) ∧ ((¬ (h a1 4) = 0 → (shCalls w a1 ∧ szC w h a1 ∧ (∀ y5, y5 = (if 0 ≤ (0 : Int) ∧ (0 : Int) < h a1 4 then h (a1 + 2) (0 : Int) else -1) → XV mX2_makeFewest 17 [none, some (vR a1), some (vR a2), some (vI y5), some (vI 1), none] [] w h Q))) ∧ ((h a1 4) = 0 → Q h))))) : XV mX2_makeFewest 0 [some (vR a0), some (vR a1), some (vR a2), none, none, none] [] w h Q := by
  refine s_aload_n (pc' := 1) (x := a1) dX2_makeFewest_0 rfl rfl ?_
  obtain ⟨z1, V⟩ := V
  refine s_callV (pc' := 4) (av := []) (a := a1) (sk := []) (kc := 0) dX2_makeFewest_1 ml_2_42 okX0_size oiX0_size (by decide) (NF := 5) rfl z1 rfl (Nat.le_of_ble_eq_true rfl) (Nat.le_refl 0) (Nat.le_refl 0) rfl (CI.eon (c_X0_size z1) ?_)
  obtain ⟨z2, V⟩ := V
  obtain ⟨V7, V8⟩ := V
  refine s_if_ne (pc' := 7) (tgt := 8) dX2_makeFewest_4 rfl rfl z2 (fun c => ?_) (fun c => ?_)
  · have V := V7 c
    refine s_aload_n (pc' := 9) (x := a1) dX2_makeFewest_8 rfl rfl ?_
    refine s_iconst (pc' := 10) dX2_makeFewest_9 rfl ?_
    obtain ⟨z3, z4, V⟩ := V
    refine s_callV (pc' := 13) (av := [vI 0]) (a := a1) (sk := []) (kc := 0) dX2_makeFewest_10 ml_2_48 okX0_latestOf oiX0_latestOf (by decide) (NF := 5) rfl z1 rfl (Nat.le_of_ble_eq_true rfl) (Nat.le_refl 0) (Nat.le_refl 0) rfl (CI.eon (c_X0_latestOf z3 (by decide) z4) ?_)
    obtain ⟨y5, e6⟩ : ∃ q, q = (if 0 ≤ (0 : Int) ∧ (0 : Int) < h a1 4 then h (a1 + 2) (0 : Int) else -1) := ⟨_, rfl⟩
    rw [← e6]
    have V := V y5 e6
    refine s_istore_n (pc' := 14) (ls' := [some (vR a0), some (vR a1), some (vR a2), some (vI y5), none, none]) dX2_makeFewest_13 (by decide) rfl rfl ?_
    refine s_iconst (pc' := 15) dX2_makeFewest_14 rfl ?_
    refine s_istore (pc' := 17) (ls' := [some (vR a0), some (vR a1), some (vR a2), some (vI y5), some (vI 1), none]) dX2_makeFewest_15 (by decide) rfl rfl ?_
    refine s_drop 0 (ls' := [none, some (vR a1), some (vR a2), some (vI y5), some (vI 1), none]) rfl ?_
    exact V
  · have V := V8 c
    exact s_vret dX2_makeFewest_7 rfl ⟨rfl, rfl, V⟩
set_option maxRecDepth 20000 in
theorem r_X2_makeFewest_17 {w : WS} {h : AH} {Q : AH → Prop} {a1 a2 a3 a4 : Int} (V : (wt w a1 = 10 ∧ (inR a4 ∧ inR (h a1 4) ∧ (((h a1 4) ≤ a4 → (wt w a2 = 17 ∧ CV mX7_add [vR a2, vI a3] w h (fun h5 => Q h5))) ∧ (¬ (h a1 4) ≤ a4 → (shCalls w a1 ∧ szC w h a1 ∧ (∀ y8, y8 = (if 0 ≤ a4 ∧ a4 < h a1 4 then h (a1 + 2) a4 else -1) → (inR (if 0 ≤ a4 ∧ a4 < h a1 4 then h (a1 + 1) a4 else -1) ∧ inR a3 ∧ (((if 0 ≤ a4 ∧ a4 < h a1 4 then h (a1 + 1) a4 else -1) ≤ a3 → (inR y8 ∧ XV mX2_makeFewest 17 [none, some (vR a1), some (vR a2), some (vI (min a3 y8)), some (vI (a4 + 1)), none] [] w h Q)) ∧ (¬ (if 0 ≤ a4 ∧ a4 < h a1 4 then h (a1 + 1) a4 else -1) ≤ a3 → (wt w a2 = 17 ∧ CV mX7_add [vR a2, vI a3] w h (fun h14 => XV mX2_makeFewest 17 [none, some (vR a1), some (vR a2), some (vI y8), some (vI (a4 + 1)), none] [] w h14 Q)))))))))))) : XV mX2_makeFewest 17 [none, some (vR a1), some (vR a2), some (vI a3), some (vI a4), none] [] w h Q := by
  refine s_iload (pc' := 19) (x := a4) dX2_makeFewest_17 rfl rfl ?_
  refine s_aload_n (pc' := 20) (x := a1) dX2_makeFewest_19 rfl rfl ?_
  obtain ⟨z1, V⟩ := V
  refine s_callV (pc' := 23) (av := []) (a := a1) (sk := [vI a4]) (kc := 0) dX2_makeFewest_20 ml_2_42 okX0_size oiX0_size (by decide) (NF := 5) rfl z1 rfl (Nat.le_of_ble_eq_true rfl) (Nat.le_refl 0) (Nat.le_refl 0) rfl (CI.eon (c_X0_size z1) ?_)
  obtain ⟨z2, z3, V⟩ := V
  obtain ⟨V17, V18⟩ := V
  refine s_icmp_ge (pc' := 26) (tgt := 68) dX2_makeFewest_23 rfl rfl z2 z3 (fun c => ?_) (fun c => ?_)
  · have V := V17 c
    refine s_aload_n (pc' := 69) (x := a2) dX2_makeFewest_68 rfl rfl ?_
    refine s_iload_n (pc' := 70) (x := a3) dX2_makeFewest_69 rfl rfl ?_
    obtain ⟨z4, V⟩ := V
    refine s_callV (pc' := 73) (av := [vI a3]) (a := a2) (sk := []) (kc := 7) dX2_makeFewest_70 ml_2_55 okX7_add oiX7_add (by decide) (NF := 2) rfl z4 rfl (Nat.le_of_ble_eq_true rfl) (Nat.le_refl 0) (Nat.le_refl 0) rfl (CV.on V (fun h5 V => ?_))
    exact s_vret dX2_makeFewest_73 rfl ⟨rfl, rfl, V⟩
  · have V := V18 c
    refine s_aload_n (pc' := 27) (x := a1) dX2_makeFewest_26 rfl rfl ?_
    refine s_iload (pc' := 29) (x := a4) dX2_makeFewest_27 rfl rfl ?_
    obtain ⟨z6, z7, V⟩ := V
    refine s_callV (pc' := 32) (av := [vI a4]) (a := a1) (sk := []) (kc := 0) dX2_makeFewest_29 ml_2_48 okX0_latestOf oiX0_latestOf (by decide) (NF := 5) rfl z1 rfl (Nat.le_of_ble_eq_true rfl) (Nat.le_refl 0) (Nat.le_refl 0) rfl (CI.eon (c_X0_latestOf z6 z2 z7) ?_)
    obtain ⟨y8, e9⟩ : ∃ q, q = (if 0 ≤ a4 ∧ a4 < h a1 4 then h (a1 + 2) a4 else -1) := ⟨_, rfl⟩
    rw [← e9]
    have V := V y8 e9
    refine s_istore (pc' := 34) (ls' := [none, some (vR a1), some (vR a2), some (vI a3), some (vI a4), some (vI y8)]) dX2_makeFewest_32 (by decide) rfl rfl ?_
    refine s_aload_n (pc' := 35) (x := a1) dX2_makeFewest_34 rfl rfl ?_
    refine s_iload (pc' := 37) (x := a4) dX2_makeFewest_35 rfl rfl ?_
    refine s_callV (pc' := 40) (av := [vI a4]) (a := a1) (sk := []) (kc := 0) dX2_makeFewest_37 ml_2_52 okX0_fromOf oiX0_fromOf (by decide) (NF := 5) rfl z1 rfl (Nat.le_of_ble_eq_true rfl) (Nat.le_refl 0) (Nat.le_refl 0) rfl (CI.eon (c_X0_fromOf z6 z2 z7) ?_)
    refine s_iload_n (pc' := 41) (x := a3) dX2_makeFewest_40 rfl rfl ?_
    obtain ⟨z10, z11, V⟩ := V
    obtain ⟨V15, V16⟩ := V
    refine s_icmp_le (pc' := 44) (tgt := 55) dX2_makeFewest_41 rfl rfl z10 z11 (fun c => ?_) (fun c => ?_)
    · have V := V15 c
      refine s_iload_n (pc' := 56) (x := a3) dX2_makeFewest_55 rfl rfl ?_
      refine s_iload (pc' := 58) (x := y8) dX2_makeFewest_56 rfl rfl ?_
      obtain ⟨z12, V⟩ := V
      refine s_min (pc' := 61) dX2_makeFewest_58 ml_2_59 mst_min mini_Math mcode_min (by decide) (Nat.le_of_ble_eq_true rfl) z11 z12 rfl ?_
      refine s_istore_n (pc' := 62) (ls' := [none, some (vR a1), some (vR a2), some (vI (min a3 y8)), some (vI a4), some (vI y8)]) dX2_makeFewest_61 (by decide) rfl rfl ?_
      refine s_iinc (pc' := 65) (ls' := [none, some (vR a1), some (vR a2), some (vI (min a3 y8)), some (vI (a4 + 1)), some (vI y8)]) dX2_makeFewest_62 rfl (by decide) rfl rfl ?_
      refine s_goto (tgt := 17) dX2_makeFewest_65 rfl ?_
      refine s_drop 5 (ls' := [none, some (vR a1), some (vR a2), some (vI (min a3 y8)), some (vI (a4 + 1)), none]) rfl ?_
      exact V
    · have V := V16 c
      refine s_aload_n (pc' := 45) (x := a2) dX2_makeFewest_44 rfl rfl ?_
      refine s_iload_n (pc' := 46) (x := a3) dX2_makeFewest_45 rfl rfl ?_
      obtain ⟨z13, V⟩ := V
      refine s_callV (pc' := 49) (av := [vI a3]) (a := a2) (sk := []) (kc := 7) dX2_makeFewest_46 ml_2_55 okX7_add oiX7_add (by decide) (NF := 2) rfl z13 rfl (Nat.le_of_ble_eq_true rfl) (Nat.le_refl 0) (Nat.le_refl 0) rfl (CV.on V (fun h14 V => ?_))
      refine s_iload (pc' := 51) (x := y8) dX2_makeFewest_49 rfl rfl ?_
      refine s_istore_n (pc' := 52) (ls' := [none, some (vR a1), some (vR a2), some (vI y8), some (vI a4), some (vI y8)]) dX2_makeFewest_51 (by decide) rfl rfl ?_
      refine s_goto (tgt := 62) dX2_makeFewest_52 rfl ?_
      refine s_iinc (pc' := 65) (ls' := [none, some (vR a1), some (vR a2), some (vI y8), some (vI (a4 + 1)), some (vI y8)]) dX2_makeFewest_62 rfl (by decide) rfl rfl ?_
      refine s_goto (tgt := 17) dX2_makeFewest_65 rfl ?_
      refine s_drop 5 (ls' := [none, some (vR a1), some (vR a2), some (vI y8), some (vI (a4 + 1)), none]) rfl ?_
      exact V
theorem e_X2_makeLive {w : WS} {h : AH} {Q : AH → Prop} {a0 a1 a2 a3 a4 : Int} (X : XV mX2_makeLive 0 [some (vR a0), some (vI a1), some (vR a2), some (vR a3), some (vR a4), none, none, none] [] w h Q) : CV mX2_makeLive [vR a0, vI a1, vR a2, vR a3, vR a4] w h Q := CA.of (M := mX2_makeLive) (by decide) rfl (Nat.le_of_ble_eq_true rfl) X
set_option maxRecDepth 20000 in
theorem r_X2_makeLive_0 {w : WS} {h : AH} {Q : AH → Prop} {a0 a1 a2 a3 a4 : Int} (V : XV mX2_makeLive 9 [none, some (vI a1), some (vR a2), some (vR a3), some (vR a4), some (vI 0), some (vI 0), some (vI 0)] [] w h Q) : XV mX2_makeLive 0 [some (vR a0), some (vI a1), some (vR a2), some (vR a3), some (vR a4), none, none, none] [] w h Q := by
  refine s_iconst (pc' := 1) dX2_makeLive_0 rfl ?_
  refine s_istore (pc' := 3) (ls' := [some (vR a0), some (vI a1), some (vR a2), some (vR a3), some (vR a4), some (vI 0), none, none]) dX2_makeLive_1 (by decide) rfl rfl ?_
  refine s_iconst (pc' := 4) dX2_makeLive_3 rfl ?_
  refine s_istore (pc' := 6) (ls' := [some (vR a0), some (vI a1), some (vR a2), some (vR a3), some (vR a4), some (vI 0), some (vI 0), none]) dX2_makeLive_4 (by decide) rfl rfl ?_
  refine s_iconst (pc' := 7) dX2_makeLive_6 rfl ?_
  refine s_istore (pc' := 9) (ls' := [some (vR a0), some (vI a1), some (vR a2), some (vR a3), some (vR a4), some (vI 0), some (vI 0), some (vI 0)]) dX2_makeLive_7 (by decide) rfl rfl ?_
  refine s_drop 0 (ls' := [none, some (vI a1), some (vR a2), some (vR a3), some (vR a4), some (vI 0), some (vI 0), some (vI 0)]) rfl ?_
  exact V
set_option maxRecDepth 20000 in
theorem r_X2_makeLive_9 {w : WS} {h : AH} {Q : AH → Prop} {a1 a2 a3 a4 a5 a6 a7 : Int} (V : (wt w a3 = 15 ∧ (inR a7 ∧ inR (h a3 9) ∧ (((h a3 9) < a7 → Q h) ∧ (¬ (h a3 9) < a7 → XV mX2_makeLive 18 [none, some (vI a1), some (vR a2), some (vR a3), some (vR a4), some (vI a5), some (vI a6), some (vI a7)] [] w h Q))))) : XV mX2_makeLive 9 [none, some (vI a1), some (vR a2), some (vR a3), some (vR a4), some (vI a5), some (vI a6), some (vI a7)] [] w h Q := by
  refine s_iload (pc' := 11) (x := a7) dX2_makeLive_9 rfl rfl ?_
  refine s_aload_n (pc' := 12) (x := a3) dX2_makeLive_11 rfl rfl ?_
  obtain ⟨z1, V⟩ := V
  refine s_callV (pc' := 15) (av := []) (a := a3) (sk := [vI a7]) (kc := 5) dX2_makeLive_12 ml_2_65 okX5_length oiX5_length (by decide) (NF := 12) rfl z1 rfl (Nat.le_of_ble_eq_true rfl) (Nat.le_refl 0) (Nat.le_refl 0) rfl (CI.eon (c_X5_length z1) ?_)
  obtain ⟨z2, z3, V⟩ := V
  obtain ⟨V4, V5⟩ := V
  refine s_icmp_gt (pc' := 18) (tgt := 79) dX2_makeLive_15 rfl rfl z2 z3 (fun c => ?_) (fun c => ?_)
  · have V := V4 c
    exact s_vret dX2_makeLive_79 rfl ⟨rfl, rfl, V⟩
  · have V := V5 c
    exact V
set_option maxRecDepth 20000 in
theorem r_X2_makeLive_18 {w : WS} {h : AH} {Q : AH → Prop} {a1 a2 a3 a4 a5 a6 a7 : Int} (V : (wt w a2 = 10 ∧ (inR a6 ∧ inR (h a2 4) ∧ (((h a2 4) ≤ a6 → (wt w a3 = 15 ∧ CI mX0_wantWake [vR a2, vI a1, vI a7, vI (h a3 10), vI a5, vI a6] w h (fun x6 h5 => (inR x6 ∧ ((x6 = 0 → XV mX2_makeLive 9 [none, some (vI a1), some (vR a2), some (vR a3), some (vR a4), some (vI a5), some (vI a6), some (vI (a7 + 1))] [] w h5 Q) ∧ (¬ x6 = 0 → (wt w a4 = 17 ∧ CV mX7_add [vR a4, vI a7] w h5 (fun h9 => XV mX2_makeLive 9 [none, some (vI a1), some (vR a2), some (vR a3), some (vR a4), some (vI a6), some (vI a6), some (vI (a7 + 1))] [] w h9 Q)))))))) ∧ (¬ (h a2 4) ≤ a6 → (shCalls w a2 ∧ szC w h a2 ∧ (inR (if 0 ≤ a6 ∧ a6 < h a2 4 then h (a2 + 1) a6 else -1) ∧ inR a7 ∧ ((a7 < (if 0 ≤ a6 ∧ a6 < h a2 4 then h (a2 + 1) a6 else -1) → (wt w a3 = 15 ∧ CI mX0_wantWake [vR a2, vI a1, vI a7, vI (h a3 10), vI a5, vI a6] w h (fun x18 h17 => (inR x18 ∧ ((x18 = 0 → XV mX2_makeLive 9 [none, some (vI a1), some (vR a2), some (vR a3), some (vR a4), some (vI a5), some (vI a6), some (vI (a7 + 1))] [] w h17 Q) ∧ (¬ x18 = 0 → (wt w a4 = 17 ∧ CV mX7_add [vR a4, vI a7] w h17 (fun h21 => XV mX2_makeLive 9 [none, some (vI a1), some (vR a2), some (vR a3), some (vR a4), some (vI a6), some (vI a6), some (vI (a7 + 1))] [] w h21 Q)))))))) ∧ (¬ a7 < (if 0 ≤ a6 ∧ a6 < h a2 4 then h (a2 + 1) a6 else -1) → XV mX2_makeLive 18 [none, some (vI a1), some (vR a2), some (vR a3), some (vR a4), some (vI a5), some (vI (a6 + 1)), some (vI a7)] [] w h Q))))))))) : XV mX2_makeLive 18 [none, some (vI a1), some (vR a2), some (vR a3), some (vR a4), some (vI a5), some (vI a6), some (vI a7)] [] w h Q := by
  refine s_iload (pc' := 20) (x := a6) dX2_makeLive_18 rfl rfl ?_
  refine s_aload_n (pc' := 21) (x := a2) dX2_makeLive_20 rfl rfl ?_
  obtain ⟨z1, V⟩ := V
  refine s_callV (pc' := 24) (av := []) (a := a2) (sk := [vI a6]) (kc := 0) dX2_makeLive_21 ml_2_42 okX0_size oiX0_size (by decide) (NF := 5) rfl z1 rfl (Nat.le_of_ble_eq_true rfl) (Nat.le_refl 0) (Nat.le_refl 0) rfl (CI.eon (c_X0_size z1) ?_)
  obtain ⟨z2, z3, V⟩ := V
  obtain ⟨V26, V27⟩ := V
  refine s_icmp_ge (pc' := 27) (tgt := 44) dX2_makeLive_24 rfl rfl z2 z3 (fun c => ?_) (fun c => ?_)
  · have V := V26 c
    refine s_aload_n (pc' := 45) (x := a2) dX2_makeLive_44 rfl rfl ?_
    refine s_iload_n (pc' := 46) (x := a1) dX2_makeLive_45 rfl rfl ?_
    refine s_iload (pc' := 48) (x := a7) dX2_makeLive_46 rfl rfl ?_
    refine s_aload_n (pc' := 49) (x := a3) dX2_makeLive_48 rfl rfl ?_
    obtain ⟨z4, V⟩ := V
    refine s_callV (pc' := 52) (av := []) (a := a3) (sk := [vI a7, vI a1, vR a2]) (kc := 5) dX2_makeLive_49 ml_2_70 okX5_wakePrice oiX5_wakePrice (by decide) (NF := 12) rfl z4 rfl (Nat.le_of_ble_eq_true rfl) (Nat.le_refl 0) (Nat.le_refl 0) rfl (CI.eon (c_X5_wakePrice z4) ?_)
    refine s_iload (pc' := 54) (x := a5) dX2_makeLive_52 rfl rfl ?_
    refine s_iload (pc' := 56) (x := a6) dX2_makeLive_54 rfl rfl ?_
    refine s_callV (pc' := 59) (av := [vI a1, vI a7, vI (h a3 10), vI a5, vI a6]) (a := a2) (sk := []) (kc := 0) dX2_makeLive_56 ml_2_73 okX0_wantWake oiX0_wantWake (by decide) (NF := 5) rfl z1 rfl (Nat.le_of_ble_eq_true rfl) (Nat.le_refl 0) (Nat.le_refl 0) rfl (CI.on V (fun x6 h5 V => ?_))
    obtain ⟨z7, V⟩ := V
    obtain ⟨V10, V11⟩ := V
    refine s_if_eq (pc' := 62) (tgt := 73) dX2_makeLive_59 rfl rfl z7 (fun c => ?_) (fun c => ?_)
    · have V := V10 c
      refine s_iinc (pc' := 76) (ls' := [none, some (vI a1), some (vR a2), some (vR a3), some (vR a4), some (vI a5), some (vI a6), some (vI (a7 + 1))]) dX2_makeLive_73 rfl (by decide) rfl rfl ?_
      refine s_goto (tgt := 9) dX2_makeLive_76 rfl ?_
      exact V
    · have V := V11 c
      refine s_aload (pc' := 64) (x := a4) dX2_makeLive_62 rfl rfl ?_
      refine s_iload (pc' := 66) (x := a7) dX2_makeLive_64 rfl rfl ?_
      obtain ⟨z8, V⟩ := V
      refine s_callV (pc' := 69) (av := [vI a7]) (a := a4) (sk := []) (kc := 7) dX2_makeLive_66 ml_2_55 okX7_add oiX7_add (by decide) (NF := 2) rfl z8 rfl (Nat.le_of_ble_eq_true rfl) (Nat.le_refl 0) (Nat.le_refl 0) rfl (CV.on V (fun h9 V => ?_))
      refine s_iload (pc' := 71) (x := a6) dX2_makeLive_69 rfl rfl ?_
      refine s_istore (pc' := 73) (ls' := [none, some (vI a1), some (vR a2), some (vR a3), some (vR a4), some (vI a6), some (vI a6), some (vI a7)]) dX2_makeLive_71 (by decide) rfl rfl ?_
      refine s_iinc (pc' := 76) (ls' := [none, some (vI a1), some (vR a2), some (vR a3), some (vR a4), some (vI a6), some (vI a6), some (vI (a7 + 1))]) dX2_makeLive_73 rfl (by decide) rfl rfl ?_
      refine s_goto (tgt := 9) dX2_makeLive_76 rfl ?_
      exact V
  · have V := V27 c
    refine s_aload_n (pc' := 28) (x := a2) dX2_makeLive_27 rfl rfl ?_
    refine s_iload (pc' := 30) (x := a6) dX2_makeLive_28 rfl rfl ?_
    obtain ⟨z12, z13, V⟩ := V
    refine s_callV (pc' := 33) (av := [vI a6]) (a := a2) (sk := []) (kc := 0) dX2_makeLive_30 ml_2_52 okX0_fromOf oiX0_fromOf (by decide) (NF := 5) rfl z1 rfl (Nat.le_of_ble_eq_true rfl) (Nat.le_refl 0) (Nat.le_refl 0) rfl (CI.eon (c_X0_fromOf z12 z2 z13) ?_)
    refine s_iload (pc' := 35) (x := a7) dX2_makeLive_33 rfl rfl ?_
    obtain ⟨z14, z15, V⟩ := V
    obtain ⟨V24, V25⟩ := V
    refine s_icmp_gt (pc' := 38) (tgt := 44) dX2_makeLive_35 rfl rfl z14 z15 (fun c => ?_) (fun c => ?_)
    · have V := V24 c
      refine s_aload_n (pc' := 45) (x := a2) dX2_makeLive_44 rfl rfl ?_
      refine s_iload_n (pc' := 46) (x := a1) dX2_makeLive_45 rfl rfl ?_
      refine s_iload (pc' := 48) (x := a7) dX2_makeLive_46 rfl rfl ?_
      refine s_aload_n (pc' := 49) (x := a3) dX2_makeLive_48 rfl rfl ?_
      obtain ⟨z16, V⟩ := V
      refine s_callV (pc' := 52) (av := []) (a := a3) (sk := [vI a7, vI a1, vR a2]) (kc := 5) dX2_makeLive_49 ml_2_70 okX5_wakePrice oiX5_wakePrice (by decide) (NF := 12) rfl z16 rfl (Nat.le_of_ble_eq_true rfl) (Nat.le_refl 0) (Nat.le_refl 0) rfl (CI.eon (c_X5_wakePrice z16) ?_)
      refine s_iload (pc' := 54) (x := a5) dX2_makeLive_52 rfl rfl ?_
      refine s_iload (pc' := 56) (x := a6) dX2_makeLive_54 rfl rfl ?_
      refine s_callV (pc' := 59) (av := [vI a1, vI a7, vI (h a3 10), vI a5, vI a6]) (a := a2) (sk := []) (kc := 0) dX2_makeLive_56 ml_2_73 okX0_wantWake oiX0_wantWake (by decide) (NF := 5) rfl z1 rfl (Nat.le_of_ble_eq_true rfl) (Nat.le_refl 0) (Nat.le_refl 0) rfl (CI.on V (fun x18 h17 V => ?_))
      obtain ⟨z19, V⟩ := V
      obtain ⟨V22, V23⟩ := V
      refine s_if_eq (pc' := 62) (tgt := 73) dX2_makeLive_59 rfl rfl z19 (fun c => ?_) (fun c => ?_)
      · have V := V22 c
        refine s_iinc (pc' := 76) (ls' := [none, some (vI a1), some (vR a2), some (vR a3), some (vR a4), some (vI a5), some (vI a6), some (vI (a7 + 1))]) dX2_makeLive_73 rfl (by decide) rfl rfl ?_
        refine s_goto (tgt := 9) dX2_makeLive_76 rfl ?_
        exact V
      · have V := V23 c
        refine s_aload (pc' := 64) (x := a4) dX2_makeLive_62 rfl rfl ?_
        refine s_iload (pc' := 66) (x := a7) dX2_makeLive_64 rfl rfl ?_
        obtain ⟨z20, V⟩ := V
        refine s_callV (pc' := 69) (av := [vI a7]) (a := a4) (sk := []) (kc := 7) dX2_makeLive_66 ml_2_55 okX7_add oiX7_add (by decide) (NF := 2) rfl z20 rfl (Nat.le_of_ble_eq_true rfl) (Nat.le_refl 0) (Nat.le_refl 0) rfl (CV.on V (fun h21 V => ?_))
        refine s_iload (pc' := 71) (x := a6) dX2_makeLive_69 rfl rfl ?_
        refine s_istore (pc' := 73) (ls' := [none, some (vI a1), some (vR a2), some (vR a3), some (vR a4), some (vI a6), some (vI a6), some (vI a7)]) dX2_makeLive_71 (by decide) rfl rfl ?_
        refine s_iinc (pc' := 76) (ls' := [none, some (vI a1), some (vR a2), some (vR a3), some (vR a4), some (vI a6), some (vI a6), some (vI (a7 + 1))]) dX2_makeLive_73 rfl (by decide) rfl rfl ?_
        refine s_goto (tgt := 9) dX2_makeLive_76 rfl ?_
        exact V
    · have V := V25 c
      refine s_iinc (pc' := 41) (ls' := [none, some (vI a1), some (vR a2), some (vR a3), some (vR a4), some (vI a5), some (vI (a6 + 1)), some (vI a7)]) dX2_makeLive_38 rfl (by decide) rfl rfl ?_
      refine s_goto (tgt := 18) dX2_makeLive_41 rfl ?_
      exact V
theorem e_X2_setBest {w : WS} {h : AH} {Q : AH → Prop} {a0 a1 a2 a3 a4 : Int} (X : XV mX2_setBest 0 [some (vR a0), some (vI a1), some (vI a2), some (vI a3), some (vI a4), none] [] w h Q) : CV mX2_setBest [vR a0, vI a1, vI a2, vI a3, vI a4] w h Q := CA.of (M := mX2_setBest) (by decide) rfl (Nat.le_of_ble_eq_true rfl) X
set_option maxRecDepth 20000 in
theorem r_X2_setBest_0 {w : WS} {h : AH} {Q : AH → Prop} {a0 a1 a2 a3 a4 : Int} (V : (inR (a1 + 1) ∧ (((a1 + 1) < 0 → Q h) ∧ (¬ (a1 + 1) < 0 → (wt w a0 = 12 ∧ (wt w (wf w a0 0) = 1 ∧ (inR (wl w (wf w a0 0)) ∧ (((wl w (wf w a0 0)) ≤ (a1 + 1) → Q h) ∧ (¬ (wl w (wf w a0 0)) ≤ (a1 + 1) → (0 ≤ (a1 + 1) ∧ (a1 + 1) < wl w (wf w a0 0) ∧ (∀ h7, h7 = st h (wf w a0 0) (a1 + 1) a2 → (wt w (wf w a0 1) = 1 ∧ (a1 + 1) < wl w (wf w a0 1) ∧ (∀ h11, h11 = st h7 (wf w a0 1) (a1 + 1) a3 → (wt w (wf w a0 2) = 1 ∧ (a1 + 1) < wl w (wf w a0 2) ∧ (∀ h15, h15 = st h11 (wf w a0 2) (a1 + 1) a4 → Q h15))))))))))))))) : XV mX2_setBest 0 [some (vR a0), some (vI a1), some (vI a2), some (vI a3), some (vI a4), none] [] w h Q := by
  refine s_iload_n (pc' := 1) (x := a1) dX2_setBest_0 rfl rfl ?_
  refine s_iconst (pc' := 2) dX2_setBest_1 rfl ?_
  refine s_iadd (pc' := 3) dX2_setBest_2 rfl ?_
  refine s_istore (pc' := 5) (ls' := [some (vR a0), some (vI a1), some (vI a2), some (vI a3), some (vI a4), some (vI (a1 + 1))]) dX2_setBest_3 (by decide) rfl rfl ?_
  refine s_iload (pc' := 7) (x := (a1 + 1)) dX2_setBest_5 rfl rfl ?_
  obtain ⟨z1, V⟩ := V
  obtain ⟨V19, V20⟩ := V
  refine s_if_lt (pc' := 10) (tgt := 45) dX2_setBest_7 rfl rfl z1 (fun c => ?_) (fun c => ?_)
  · have V := V19 c
    exact s_vret dX2_setBest_45 rfl ⟨rfl, rfl, V⟩
  · have V := V20 c
    refine s_iload (pc' := 12) (x := (a1 + 1)) dX2_setBest_10 rfl rfl ?_
    refine s_aload_n (pc' := 13) (x := a0) dX2_setBest_12 rfl rfl ?_
    obtain ⟨z2, V⟩ := V
    refine s_get (pc' := 16) (v := vR (wf w a0 0)) (kc := 2) (i := 0) dX2_setBest_13 clX2 (by decide) fl_2_0 z2 (fun _ => rfl) rfl ?_
    obtain ⟨z3, V⟩ := V
    refine s_alen1 (pc' := 17) dX2_setBest_16 z3 rfl ?_
    obtain ⟨z4, V⟩ := V
    obtain ⟨V17, V18⟩ := V
    refine s_icmp_ge (pc' := 20) (tgt := 45) dX2_setBest_17 rfl rfl z1 z4 (fun c => ?_) (fun c => ?_)
    · have V := V17 c
      exact s_vret dX2_setBest_45 rfl ⟨rfl, rfl, V⟩
    · have V := V18 c
      refine s_aload_n (pc' := 21) (x := a0) dX2_setBest_20 rfl rfl ?_
      refine s_get (pc' := 24) (v := vR (wf w a0 0)) (kc := 2) (i := 0) dX2_setBest_21 clX2 (by decide) fl_2_0 z2 (fun _ => rfl) rfl ?_
      refine s_iload (pc' := 26) (x := (a1 + 1)) dX2_setBest_24 rfl rfl ?_
      refine s_iload_n (pc' := 27) (x := a2) dX2_setBest_26 rfl rfl ?_
      obtain ⟨z5, z6, V⟩ := V
      refine s_iast (pc' := 28) dX2_setBest_27 z3 z5 z6 rfl ?_
      obtain ⟨h7, e8⟩ : ∃ q, q = st h (wf w a0 0) (a1 + 1) a2 := ⟨_, rfl⟩
      rw [← e8]
      have V := V h7 e8
      refine s_aload_n (pc' := 29) (x := a0) dX2_setBest_28 rfl rfl ?_
      refine s_get (pc' := 32) (v := vR (wf w a0 1)) (kc := 2) (i := 1) dX2_setBest_29 clX2 (by decide) fl_2_1 z2 (fun _ => rfl) rfl ?_
      refine s_iload (pc' := 34) (x := (a1 + 1)) dX2_setBest_32 rfl rfl ?_
      refine s_iload_n (pc' := 35) (x := a3) dX2_setBest_34 rfl rfl ?_
      obtain ⟨z9, z10, V⟩ := V
      refine s_iast (pc' := 36) dX2_setBest_35 z9 z5 z10 rfl ?_
      obtain ⟨h11, e12⟩ : ∃ q, q = st h7 (wf w a0 1) (a1 + 1) a3 := ⟨_, rfl⟩
      rw [← e12]
      have V := V h11 e12
      refine s_aload_n (pc' := 37) (x := a0) dX2_setBest_36 rfl rfl ?_
      refine s_get (pc' := 40) (v := vR (wf w a0 2)) (kc := 2) (i := 2) dX2_setBest_37 clX2 (by decide) fl_2_2 z2 (fun _ => rfl) rfl ?_
      refine s_iload (pc' := 42) (x := (a1 + 1)) dX2_setBest_40 rfl rfl ?_
      refine s_iload (pc' := 44) (x := a4) dX2_setBest_42 rfl rfl ?_
      obtain ⟨z13, z14, V⟩ := V
      refine s_iast (pc' := 45) dX2_setBest_44 z13 z5 z14 rfl ?_
      obtain ⟨h15, e16⟩ : ∃ q, q = st h11 (wf w a0 2) (a1 + 1) a4 := ⟨_, rfl⟩
      rw [← e16]
      have V := V h15 e16
      exact s_vret dX2_setBest_45 rfl ⟨rfl, rfl, V⟩
theorem e_X2_tryNext {w : WS} {h : AH} {Q : AH → Prop} {a0 a1 a2 a3 : Int} (X : XV mX2_tryNext 0 [some (vR a0), some (vI a1), some (vI a2), some (vI a3), none, none, none, none] [] w h Q) : CV mX2_tryNext [vR a0, vI a1, vI a2, vI a3] w h Q := CA.of (M := mX2_tryNext) (by decide) rfl (Nat.le_of_ble_eq_true rfl) X
set_option maxRecDepth 20000 in
theorem r_X2_tryNext_0 {w : WS} {h : AH} {Q : AH → Prop} {a0 a1 a2 a3 : Int} (V : (inR (a1 + 1) ∧ (((a1 + 1) < 0 → Q h) ∧ (¬ (a1 + 1) < 0 → (wt w a0 = 12 ∧ (wt w (wf w a0 0) = 1 ∧ (inR (wl w (wf w a0 0)) ∧ (((wl w (wf w a0 0)) ≤ (a1 + 1) → Q h) ∧ (¬ (wl w (wf w a0 0)) ≤ (a1 + 1) → (inR (a2 + 1) ∧ (((a2 + 1) < 0 → Q h) ∧ (¬ (a2 + 1) < 0 → (((a2 + 1) < (wl w (wf w a0 0)) → (0 ≤ (a2 + 1) ∧ (a2 + 1) < wl w (wf w a0 0) ∧ (∀ y8, y8 = (a3 + (h (wf w a0 0) (a2 + 1))) → (wt w (wf w a0 1) = 1 ∧ (a2 + 1) < wl w (wf w a0 1) ∧ (∀ y12, y12 = (1 + (h (wf w a0 1) (a2 + 1))) → (0 ≤ (a1 + 1) ∧ (a1 + 1) < wl w (wf w a0 0) ∧ (inR y8 ∧ inR (h (wf w a0 0) (a1 + 1)) ∧ ((y8 < (h (wf w a0 0) (a1 + 1)) → CV mX2_setBest [vR a0, vI a1, vI y8, vI y12, vI a2] w h (fun h18 => Q h18)) ∧ (¬ y8 < (h (wf w a0 0) (a1 + 1)) → ((¬ y8 = (h (wf w a0 0) (a1 + 1)) → Q h) ∧ (y8 = (h (wf w a0 0) (a1 + 1)) → ((a1 + 1) < wl w (wf w a0 1) ∧ (inR y12 ∧ inR (h (wf w a0 1) (a1 + 1)) ∧ (((h (wf w a0 1) (a1 + 1)) ≤ y12 → Q h) ∧ (¬ (h (wf w a0 1) (a1 + 1)) ≤ y12 → CV mX2_setBest [vR a0, vI a1, vI y8, vI y12, vI a2] w h (fun h22 => Q h22)))))))))))))))) ∧ (¬ (a2 + 1) < (wl w (wf w a0 0)) → Q h)))))))))))))) : XV mX2_tryNext 0 [some (vR a0), some (vI a1), some (vI a2), some (vI a3), none, none, none, none] [] w h Q := by
  refine s_iload_n (pc' := 1) (x := a1) dX2_tryNext_0 rfl rfl ?_
  refine s_iconst (pc' := 2) dX2_tryNext_1 rfl ?_
  refine s_iadd (pc' := 3) dX2_tryNext_2 rfl ?_
  refine s_istore (pc' := 5) (ls' := [some (vR a0), some (vI a1), some (vI a2), some (vI a3), some (vI (a1 + 1)), none, none, none]) dX2_tryNext_3 (by decide) rfl rfl ?_
  refine s_iload_n (pc' := 6) (x := a2) dX2_tryNext_5 rfl rfl ?_
  refine s_iconst (pc' := 7) dX2_tryNext_6 rfl ?_
  refine s_iadd (pc' := 8) dX2_tryNext_7 rfl ?_
  refine s_istore (pc' := 10) (ls' := [some (vR a0), some (vI a1), some (vI a2), some (vI a3), some (vI (a1 + 1)), some (vI (a2 + 1)), none, none]) dX2_tryNext_8 (by decide) rfl rfl ?_
  refine s_iload (pc' := 12) (x := (a1 + 1)) dX2_tryNext_10 rfl rfl ?_
  obtain ⟨z1, V⟩ := V
  obtain ⟨V35, V36⟩ := V
  refine s_if_lt (pc' := 15) (tgt := 40) dX2_tryNext_12 rfl rfl z1 (fun c => ?_) (fun c => ?_)
  · have V := V35 c
    exact s_vret dX2_tryNext_40 rfl ⟨rfl, rfl, V⟩
  · have V := V36 c
    refine s_iload (pc' := 17) (x := (a1 + 1)) dX2_tryNext_15 rfl rfl ?_
    refine s_aload_n (pc' := 18) (x := a0) dX2_tryNext_17 rfl rfl ?_
    obtain ⟨z2, V⟩ := V
    refine s_get (pc' := 21) (v := vR (wf w a0 0)) (kc := 2) (i := 0) dX2_tryNext_18 clX2 (by decide) fl_2_0 z2 (fun _ => rfl) rfl ?_
    obtain ⟨z3, V⟩ := V
    refine s_alen1 (pc' := 22) dX2_tryNext_21 z3 rfl ?_
    obtain ⟨z4, V⟩ := V
    obtain ⟨V33, V34⟩ := V
    refine s_icmp_ge (pc' := 25) (tgt := 40) dX2_tryNext_22 rfl rfl z1 z4 (fun c => ?_) (fun c => ?_)
    · have V := V33 c
      exact s_vret dX2_tryNext_40 rfl ⟨rfl, rfl, V⟩
    · have V := V34 c
      refine s_iload (pc' := 27) (x := (a2 + 1)) dX2_tryNext_25 rfl rfl ?_
      obtain ⟨z5, V⟩ := V
      obtain ⟨V31, V32⟩ := V
      refine s_if_lt (pc' := 30) (tgt := 40) dX2_tryNext_27 rfl rfl z5 (fun c => ?_) (fun c => ?_)
      · have V := V31 c
        exact s_vret dX2_tryNext_40 rfl ⟨rfl, rfl, V⟩
      · have V := V32 c
        refine s_iload (pc' := 32) (x := (a2 + 1)) dX2_tryNext_30 rfl rfl ?_
        refine s_aload_n (pc' := 33) (x := a0) dX2_tryNext_32 rfl rfl ?_
        refine s_get (pc' := 36) (v := vR (wf w a0 0)) (kc := 2) (i := 0) dX2_tryNext_33 clX2 (by decide) fl_2_0 z2 (fun _ => rfl) rfl ?_
        refine s_alen1 (pc' := 37) dX2_tryNext_36 z3 rfl ?_
        obtain ⟨V29, V30⟩ := V
        refine s_icmp_lt (pc' := 40) (tgt := 41) dX2_tryNext_37 rfl rfl z5 z4 (fun c => ?_) (fun c => ?_)
        · have V := V29 c
          refine s_iload_n (pc' := 42) (x := a3) dX2_tryNext_41 rfl rfl ?_
          refine s_aload_n (pc' := 43) (x := a0) dX2_tryNext_42 rfl rfl ?_
          refine s_get (pc' := 46) (v := vR (wf w a0 0)) (kc := 2) (i := 0) dX2_tryNext_43 clX2 (by decide) fl_2_0 z2 (fun _ => rfl) rfl ?_
          refine s_iload (pc' := 48) (x := (a2 + 1)) dX2_tryNext_46 rfl rfl ?_
          obtain ⟨z6, z7, V⟩ := V
          refine s_iald (pc' := 49) dX2_tryNext_48 z3 z6 z7 rfl ?_
          refine s_iadd (pc' := 50) dX2_tryNext_49 rfl ?_
          obtain ⟨y8, e9⟩ : ∃ q, q = (a3 + (h (wf w a0 0) (a2 + 1))) := ⟨_, rfl⟩
          rw [← e9]
          have V := V y8 e9
          refine s_istore (pc' := 52) (ls' := [some (vR a0), some (vI a1), some (vI a2), some (vI a3), some (vI (a1 + 1)), some (vI (a2 + 1)), some (vI y8), none]) dX2_tryNext_50 (by decide) rfl rfl ?_
          refine s_iconst (pc' := 53) dX2_tryNext_52 rfl ?_
          refine s_aload_n (pc' := 54) (x := a0) dX2_tryNext_53 rfl rfl ?_
          refine s_get (pc' := 57) (v := vR (wf w a0 1)) (kc := 2) (i := 1) dX2_tryNext_54 clX2 (by decide) fl_2_1 z2 (fun _ => rfl) rfl ?_
          refine s_iload (pc' := 59) (x := (a2 + 1)) dX2_tryNext_57 rfl rfl ?_
          obtain ⟨z10, z11, V⟩ := V
          refine s_iald (pc' := 60) dX2_tryNext_59 z10 z6 z11 rfl ?_
          refine s_iadd (pc' := 61) dX2_tryNext_60 rfl ?_
          obtain ⟨y12, e13⟩ : ∃ q, q = (1 + (h (wf w a0 1) (a2 + 1))) := ⟨_, rfl⟩
          rw [← e13]
          have V := V y12 e13
          refine s_istore (pc' := 63) (ls' := [some (vR a0), some (vI a1), some (vI a2), some (vI a3), some (vI (a1 + 1)), some (vI (a2 + 1)), some (vI y8), some (vI y12)]) dX2_tryNext_61 (by decide) rfl rfl ?_
          refine s_iload (pc' := 65) (x := y8) dX2_tryNext_63 rfl rfl ?_
          refine s_aload_n (pc' := 66) (x := a0) dX2_tryNext_65 rfl rfl ?_
          refine s_get (pc' := 69) (v := vR (wf w a0 0)) (kc := 2) (i := 0) dX2_tryNext_66 clX2 (by decide) fl_2_0 z2 (fun _ => rfl) rfl ?_
          refine s_iload (pc' := 71) (x := (a1 + 1)) dX2_tryNext_69 rfl rfl ?_
          obtain ⟨z14, z15, V⟩ := V
          refine s_iald (pc' := 72) dX2_tryNext_71 z3 z14 z15 rfl ?_
          obtain ⟨z16, z17, V⟩ := V
          obtain ⟨V27, V28⟩ := V
          refine s_icmp_lt (pc' := 75) (tgt := 99) dX2_tryNext_72 rfl rfl z16 z17 (fun c => ?_) (fun c => ?_)
          · have V := V27 c
            refine s_aload_n (pc' := 100) (x := a0) dX2_tryNext_99 rfl rfl ?_
            refine s_iload_n (pc' := 101) (x := a1) dX2_tryNext_100 rfl rfl ?_
            refine s_iload (pc' := 103) (x := y8) dX2_tryNext_101 rfl rfl ?_
            refine s_iload (pc' := 105) (x := y12) dX2_tryNext_103 rfl rfl ?_
            refine s_iload_n (pc' := 106) (x := a2) dX2_tryNext_105 rfl rfl ?_
            refine s_callV (pc' := 109) (av := [vI a1, vI y8, vI y12, vI a2]) (a := a0) (sk := []) (kc := 2) dX2_tryNext_106 ml_2_78 okX2_setBest oiX2_setBest (by decide) (NF := 3) rfl z2 rfl (Nat.le_of_ble_eq_true rfl) (Nat.le_refl 0) (Nat.le_refl 0) rfl (CV.on V (fun h18 V => ?_))
            exact s_vret dX2_tryNext_109 rfl ⟨rfl, rfl, V⟩
          · have V := V28 c
            refine s_iload (pc' := 77) (x := y8) dX2_tryNext_75 rfl rfl ?_
            refine s_aload_n (pc' := 78) (x := a0) dX2_tryNext_77 rfl rfl ?_
            refine s_get (pc' := 81) (v := vR (wf w a0 0)) (kc := 2) (i := 0) dX2_tryNext_78 clX2 (by decide) fl_2_0 z2 (fun _ => rfl) rfl ?_
            refine s_iload (pc' := 83) (x := (a1 + 1)) dX2_tryNext_81 rfl rfl ?_
            refine s_iald (pc' := 84) dX2_tryNext_83 z3 z14 z15 rfl ?_
            obtain ⟨V25, V26⟩ := V
            refine s_icmp_ne (pc' := 87) (tgt := 109) dX2_tryNext_84 rfl rfl z16 z17 (fun c => ?_) (fun c => ?_)
            · have V := V25 c
              exact s_vret dX2_tryNext_109 rfl ⟨rfl, rfl, V⟩
            · have V := V26 c
              refine s_iload (pc' := 89) (x := y12) dX2_tryNext_87 rfl rfl ?_
              refine s_aload_n (pc' := 90) (x := a0) dX2_tryNext_89 rfl rfl ?_
              refine s_get (pc' := 93) (v := vR (wf w a0 1)) (kc := 2) (i := 1) dX2_tryNext_90 clX2 (by decide) fl_2_1 z2 (fun _ => rfl) rfl ?_
              refine s_iload (pc' := 95) (x := (a1 + 1)) dX2_tryNext_93 rfl rfl ?_
              obtain ⟨z19, V⟩ := V
              refine s_iald (pc' := 96) dX2_tryNext_95 z10 z14 z19 rfl ?_
              obtain ⟨z20, z21, V⟩ := V
              obtain ⟨V23, V24⟩ := V
              refine s_icmp_ge (pc' := 99) (tgt := 109) dX2_tryNext_96 rfl rfl z20 z21 (fun c => ?_) (fun c => ?_)
              · have V := V23 c
                exact s_vret dX2_tryNext_109 rfl ⟨rfl, rfl, V⟩
              · have V := V24 c
                refine s_aload_n (pc' := 100) (x := a0) dX2_tryNext_99 rfl rfl ?_
                refine s_iload_n (pc' := 101) (x := a1) dX2_tryNext_100 rfl rfl ?_
                refine s_iload (pc' := 103) (x := y8) dX2_tryNext_101 rfl rfl ?_
                refine s_iload (pc' := 105) (x := y12) dX2_tryNext_103 rfl rfl ?_
                refine s_iload_n (pc' := 106) (x := a2) dX2_tryNext_105 rfl rfl ?_
                refine s_callV (pc' := 109) (av := [vI a1, vI y8, vI y12, vI a2]) (a := a0) (sk := []) (kc := 2) dX2_tryNext_106 ml_2_78 okX2_setBest oiX2_setBest (by decide) (NF := 3) rfl z2 rfl (Nat.le_of_ble_eq_true rfl) (Nat.le_refl 0) (Nat.le_refl 0) rfl (CV.on V (fun h22 V => ?_))
                exact s_vret dX2_tryNext_109 rfl ⟨rfl, rfl, V⟩
        · have V := V30 c
          exact s_vret dX2_tryNext_40 rfl ⟨rfl, rfl, V⟩
theorem e_X2_solveEnergy {w : WS} {h : AH} {Q : AH → Prop} {a0 a1 a2 a3 a4 a5 : Int} (X : XV mX2_solveEnergy 0 [some (vR a0), some (vI a1), some (vI a2), some (vI a3), some (vI a4), some (vI a5), none, none] [] w h Q) : CV mX2_solveEnergy [vR a0, vI a1, vI a2, vI a3, vI a4, vI a5] w h Q := CA.of (M := mX2_solveEnergy) (by decide) rfl (Nat.le_of_ble_eq_true rfl) X
set_option maxRecDepth 20000 in
theorem r_X2_solveEnergy_0 {w : WS} {h : AH} {Q : AH → Prop} {a0 a1 a2 a3 a4 a5 : Int} (V : (wt w a0 = 12 ∧ CV mX2_setBest [vR a0, vI a1, vI 1000000, vI 1000000, vI (-1)] w h (fun h2 => XV mX2_solveEnergy 13 [some (vR a0), some (vI a1), none, some (vI a3), some (vI a4), some (vI a5), some (vI a2), none] [] w h2 Q))) : XV mX2_solveEnergy 0 [some (vR a0), some (vI a1), some (vI a2), some (vI a3), some (vI a4), some (vI a5), none, none] [] w h Q := by
  refine s_aload_n (pc' := 1) (x := a0) dX2_solveEnergy_0 rfl rfl ?_
  refine s_iload_n (pc' := 2) (x := a1) dX2_solveEnergy_1 rfl rfl ?_
  refine s_ldc (pc' := 4) (x := 1000000) dX2_solveEnergy_2 cst_2_77 rfl rfl ?_
  refine s_ldc (pc' := 6) (x := 1000000) dX2_solveEnergy_4 cst_2_77 rfl rfl ?_
  refine s_iconst (pc' := 7) dX2_solveEnergy_6 rfl ?_
  obtain ⟨z1, V⟩ := V
  refine s_callV (pc' := 10) (av := [vI a1, vI 1000000, vI 1000000, vI (-1)]) (a := a0) (sk := []) (kc := 2) dX2_solveEnergy_7 ml_2_78 okX2_setBest oiX2_setBest (by decide) (NF := 3) rfl z1 rfl (Nat.le_of_ble_eq_true rfl) (Nat.le_refl 0) (Nat.le_refl 0) rfl (CV.on V (fun h2 V => ?_))
  refine s_iload_n (pc' := 11) (x := a2) dX2_solveEnergy_10 rfl rfl ?_
  refine s_istore (pc' := 13) (ls' := [some (vR a0), some (vI a1), some (vI a2), some (vI a3), some (vI a4), some (vI a5), some (vI a2), none]) dX2_solveEnergy_11 (by decide) rfl rfl ?_
  refine s_drop 2 (ls' := [some (vR a0), some (vI a1), none, some (vI a3), some (vI a4), some (vI a5), some (vI a2), none]) rfl ?_
  exact V
set_option maxRecDepth 20000 in
theorem r_X2_solveEnergy_13 {w : WS} {h : AH} {Q : AH → Prop} {a0 a1 a3 a4 a5 a6 : Int} (V : (inR a6 ∧ inR a3 ∧ ((a3 < a6 → Q h) ∧ (¬ a3 < a6 → ((300 < a6 → Q h) ∧ (¬ 300 < a6 → (inR a1 ∧ ((¬ a1 = (-1) → (inR a4 ∧ inR (a5 * (a6 - a1)) ∧ (wt w a0 = 12 ∧ CV mX2_tryNext [vR a0, vI a1, vI a6, vI (min a4 (a5 * (a6 - a1)))] w h (fun h7 => XV mX2_solveEnergy 13 [some (vR a0), some (vI a1), none, some (vI a3), some (vI a4), some (vI a5), some (vI (a6 + 1)), none] [] w h7 Q)))) ∧ (a1 = (-1) → (wt w a0 = 12 ∧ CV mX2_tryNext [vR a0, vI a1, vI a6, vI a4] w h (fun h9 => XV mX2_solveEnergy 13 [some (vR a0), some (vI a1), none, some (vI a3), some (vI a4), some (vI a5), some (vI (a6 + 1)), none] [] w h9 Q))))))))))) : XV mX2_solveEnergy 13 [some (vR a0), some (vI a1), none, some (vI a3), some (vI a4), some (vI a5), some (vI a6), none] [] w h Q := by
  refine s_iload (pc' := 15) (x := a6) dX2_solveEnergy_13 rfl rfl ?_
  refine s_iload_n (pc' := 16) (x := a3) dX2_solveEnergy_15 rfl rfl ?_
  obtain ⟨z1, z2, V⟩ := V
  obtain ⟨V14, V15⟩ := V
  refine s_icmp_gt (pc' := 19) (tgt := 66) dX2_solveEnergy_16 rfl rfl z1 z2 (fun c => ?_) (fun c => ?_)
  · have V := V14 c
    exact s_vret dX2_solveEnergy_66 rfl ⟨rfl, rfl, V⟩
  · have V := V15 c
    refine s_iload (pc' := 21) (x := a6) dX2_solveEnergy_19 rfl rfl ?_
    refine s_sipush (pc' := 24) dX2_solveEnergy_21 (by decide) rfl ?_
    obtain ⟨V12, V13⟩ := V
    refine s_icmp_gt (pc' := 27) (tgt := 66) dX2_solveEnergy_24 rfl rfl z1 (by decide) (fun c => ?_) (fun c => ?_)
    · have V := V12 c
      exact s_vret dX2_solveEnergy_66 rfl ⟨rfl, rfl, V⟩
    · have V := V13 c
      refine s_iload (pc' := 29) (x := a5) dX2_solveEnergy_27 rfl rfl ?_
      refine s_iload (pc' := 31) (x := a6) dX2_solveEnergy_29 rfl rfl ?_
      refine s_iload_n (pc' := 32) (x := a1) dX2_solveEnergy_31 rfl rfl ?_
      refine s_isub (pc' := 33) dX2_solveEnergy_32 rfl ?_
      refine s_imul (pc' := 34) dX2_solveEnergy_33 rfl ?_
      refine s_istore (pc' := 36) (ls' := [some (vR a0), some (vI a1), none, some (vI a3), some (vI a4), some (vI a5), some (vI a6), some (vI (a5 * (a6 - a1)))]) dX2_solveEnergy_34 (by decide) rfl rfl ?_
      refine s_aload_n (pc' := 37) (x := a0) dX2_solveEnergy_36 rfl rfl ?_
      refine s_iload_n (pc' := 38) (x := a1) dX2_solveEnergy_37 rfl rfl ?_
      refine s_iload (pc' := 40) (x := a6) dX2_solveEnergy_38 rfl rfl ?_
      refine s_iload_n (pc' := 41) (x := a1) dX2_solveEnergy_40 rfl rfl ?_
      refine s_iconst (pc' := 42) dX2_solveEnergy_41 rfl ?_
      obtain ⟨z3, V⟩ := V
      obtain ⟨V10, V11⟩ := V
      refine s_icmp_ne (pc' := 45) (tgt := 50) dX2_solveEnergy_42 rfl rfl z3 (by decide) (fun c => ?_) (fun c => ?_)
      · have V := V10 c
        refine s_iload (pc' := 52) (x := a4) dX2_solveEnergy_50 rfl rfl ?_
        refine s_iload (pc' := 54) (x := (a5 * (a6 - a1))) dX2_solveEnergy_52 rfl rfl ?_
        obtain ⟨z4, z5, V⟩ := V
        refine s_min (pc' := 57) dX2_solveEnergy_54 ml_2_59 mst_min mini_Math mcode_min (by decide) (Nat.le_of_ble_eq_true rfl) z4 z5 rfl ?_
        obtain ⟨z6, V⟩ := V
        refine s_callV (pc' := 60) (av := [vI a1, vI a6, vI (min a4 (a5 * (a6 - a1)))]) (a := a0) (sk := []) (kc := 2) dX2_solveEnergy_57 ml_2_93 okX2_tryNext oiX2_tryNext (by decide) (NF := 3) rfl z6 rfl (Nat.le_of_ble_eq_true rfl) (Nat.le_refl 0) (Nat.le_refl 0) rfl (CV.on V (fun h7 V => ?_))
        refine s_iinc (pc' := 63) (ls' := [some (vR a0), some (vI a1), none, some (vI a3), some (vI a4), some (vI a5), some (vI (a6 + 1)), some (vI (a5 * (a6 - a1)))]) dX2_solveEnergy_60 rfl (by decide) rfl rfl ?_
        refine s_goto (tgt := 13) dX2_solveEnergy_63 rfl ?_
        refine s_drop 7 (ls' := [some (vR a0), some (vI a1), none, some (vI a3), some (vI a4), some (vI a5), some (vI (a6 + 1)), none]) rfl ?_
        exact V
      · have V := V11 c
        refine s_iload (pc' := 47) (x := a4) dX2_solveEnergy_45 rfl rfl ?_
        refine s_goto (tgt := 57) dX2_solveEnergy_47 rfl ?_
        obtain ⟨z8, V⟩ := V
        refine s_callV (pc' := 60) (av := [vI a1, vI a6, vI a4]) (a := a0) (sk := []) (kc := 2) dX2_solveEnergy_57 ml_2_93 okX2_tryNext oiX2_tryNext (by decide) (NF := 3) rfl z8 rfl (Nat.le_of_ble_eq_true rfl) (Nat.le_refl 0) (Nat.le_refl 0) rfl (CV.on V (fun h9 V => ?_))
        refine s_iinc (pc' := 63) (ls' := [some (vR a0), some (vI a1), none, some (vI a3), some (vI a4), some (vI a5), some (vI (a6 + 1)), some (vI (a5 * (a6 - a1)))]) dX2_solveEnergy_60 rfl (by decide) rfl rfl ?_
        refine s_goto (tgt := 13) dX2_solveEnergy_63 rfl ?_
        refine s_drop 7 (ls' := [some (vR a0), some (vI a1), none, some (vI a3), some (vI a4), some (vI a5), some (vI (a6 + 1)), none]) rfl ?_
        exact V
theorem e_X2_solveCost {w : WS} {h : AH} {Q : AH → Prop} {a0 a1 a2 a3 a4 a5 : Int} (X : XV mX2_solveCost 0 [some (vR a0), some (vI a1), some (vR a2), some (vI a3), some (vI a4), some (vI a5), none, none, none, none] [] w h Q) : CV mX2_solveCost [vR a0, vI a1, vR a2, vI a3, vI a4, vI a5] w h Q := CA.of (M := mX2_solveCost) (by decide) rfl (Nat.le_of_ble_eq_true rfl) X
set_option maxRecDepth 20000 in
theorem r_X2_solveCost_0 {w : WS} {h : AH} {Q : AH → Prop} {a0 a1 a2 a3 a4 a5 : Int} (V : (wt w a0 = 12 ∧ CV mX2_setBest [vR a0, vI a1, vI 1000000, vI 1000000, vI (-1)] w h (fun h2 => (wt w a2 = 10 ∧ shCalls w a2 ∧ inR a3 ∧ szC w h2 a2 ∧ (∀ y7, y7 = (if 0 ≤ a3 ∧ a3 < h2 a2 4 then h2 (a2 + 1) a3 else -1) → XV mX2_solveCost 26 [some (vR a0), some (vI a1), some (vR a2), none, some (vI a4), some (vI a5), some (vI a3), some (vI 0), some (vI 0), some (vI y7)] [] w h2 Q))))) : XV mX2_solveCost 0 [some (vR a0), some (vI a1), some (vR a2), some (vI a3), some (vI a4), some (vI a5), none, none, none, none] [] w h Q := by
  refine s_aload_n (pc' := 1) (x := a0) dX2_solveCost_0 rfl rfl ?_
  refine s_iload_n (pc' := 2) (x := a1) dX2_solveCost_1 rfl rfl ?_
  refine s_ldc (pc' := 4) (x := 1000000) dX2_solveCost_2 cst_2_77 rfl rfl ?_
  refine s_ldc (pc' := 6) (x := 1000000) dX2_solveCost_4 cst_2_77 rfl rfl ?_
  refine s_iconst (pc' := 7) dX2_solveCost_6 rfl ?_
  obtain ⟨z1, V⟩ := V
  refine s_callV (pc' := 10) (av := [vI a1, vI 1000000, vI 1000000, vI (-1)]) (a := a0) (sk := []) (kc := 2) dX2_solveCost_7 ml_2_78 okX2_setBest oiX2_setBest (by decide) (NF := 3) rfl z1 rfl (Nat.le_of_ble_eq_true rfl) (Nat.le_refl 0) (Nat.le_refl 0) rfl (CV.on V (fun h2 V => ?_))
  refine s_iload_n (pc' := 11) (x := a3) dX2_solveCost_10 rfl rfl ?_
  refine s_istore (pc' := 13) (ls' := [some (vR a0), some (vI a1), some (vR a2), some (vI a3), some (vI a4), some (vI a5), some (vI a3), none, none, none]) dX2_solveCost_11 (by decide) rfl rfl ?_
  refine s_iconst (pc' := 14) dX2_solveCost_13 rfl ?_
  refine s_istore (pc' := 16) (ls' := [some (vR a0), some (vI a1), some (vR a2), some (vI a3), some (vI a4), some (vI a5), some (vI a3), some (vI 0), none, none]) dX2_solveCost_14 (by decide) rfl rfl ?_
  refine s_iconst (pc' := 17) dX2_solveCost_16 rfl ?_
  refine s_istore (pc' := 19) (ls' := [some (vR a0), some (vI a1), some (vR a2), some (vI a3), some (vI a4), some (vI a5), some (vI a3), some (vI 0), some (vI 0), none]) dX2_solveCost_17 (by decide) rfl rfl ?_
  refine s_aload_n (pc' := 20) (x := a2) dX2_solveCost_19 rfl rfl ?_
  refine s_iload_n (pc' := 21) (x := a3) dX2_solveCost_20 rfl rfl ?_
  obtain ⟨z3, z4, z5, z6, V⟩ := V
  refine s_callV (pc' := 24) (av := [vI a3]) (a := a2) (sk := []) (kc := 0) dX2_solveCost_21 ml_2_52 okX0_fromOf oiX0_fromOf (by decide) (NF := 5) rfl z3 rfl (Nat.le_of_ble_eq_true rfl) (Nat.le_refl 0) (Nat.le_refl 0) rfl (CI.eon (c_X0_fromOf z4 z5 z6) ?_)
  obtain ⟨y7, e8⟩ : ∃ q, q = (if 0 ≤ a3 ∧ a3 < h2 a2 4 then h2 (a2 + 1) a3 else -1) := ⟨_, rfl⟩
  rw [← e8]
  have V := V y7 e8
  refine s_istore (pc' := 26) (ls' := [some (vR a0), some (vI a1), some (vR a2), some (vI a3), some (vI a4), some (vI a5), some (vI a3), some (vI 0), some (vI 0), some (vI y7)]) dX2_solveCost_24 (by decide) rfl rfl ?_
  refine s_drop 3 (ls' := [some (vR a0), some (vI a1), some (vR a2), none, some (vI a4), some (vI a5), some (vI a3), some (vI 0), some (vI 0), some (vI y7)]) rfl ?_
  exact V
set_option maxRecDepth 20000 in
theorem r_X2_solveCost_26 {w : WS} {h : AH} {Q : AH → Prop} {a0 a1 a2 a4 a5 a6 a7 a8 a9 : Int} (V : (inR a9 ∧ inR a4 ∧ ((a4 < a9 → Q h) ∧ (¬ a4 < a9 → ((300 < a9 → Q h) ∧ (¬ 300 < a9 → XV mX2_solveCost 48 [some (vR a0), some (vI a1), some (vR a2), none, some (vI a4), some (vI a5), some (vI a6), some (vI a7), some (vI (a8 + a7)), some (vI a9)] [] w h Q)))))) : XV mX2_solveCost 26 [some (vR a0), some (vI a1), some (vR a2), none, some (vI a4), some (vI a5), some (vI a6), some (vI a7), some (vI a8), some (vI a9)] [] w h Q := by
  refine s_iload (pc' := 28) (x := a9) dX2_solveCost_26 rfl rfl ?_
  refine s_iload (pc' := 30) (x := a4) dX2_solveCost_28 rfl rfl ?_
  obtain ⟨z1, z2, V⟩ := V
  obtain ⟨V5, V6⟩ := V
  refine s_icmp_gt (pc' := 33) (tgt := 103) dX2_solveCost_30 rfl rfl z1 z2 (fun c => ?_) (fun c => ?_)
  · have V := V5 c
    exact s_vret dX2_solveCost_103 rfl ⟨rfl, rfl, V⟩
  · have V := V6 c
    refine s_iload (pc' := 35) (x := a9) dX2_solveCost_33 rfl rfl ?_
    refine s_sipush (pc' := 38) dX2_solveCost_35 (by decide) rfl ?_
    obtain ⟨V3, V4⟩ := V
    refine s_icmp_gt (pc' := 41) (tgt := 103) dX2_solveCost_38 rfl rfl z1 (by decide) (fun c => ?_) (fun c => ?_)
    · have V := V3 c
      exact s_vret dX2_solveCost_103 rfl ⟨rfl, rfl, V⟩
    · have V := V4 c
      refine s_iload (pc' := 43) (x := a8) dX2_solveCost_41 rfl rfl ?_
      refine s_iload (pc' := 45) (x := a7) dX2_solveCost_43 rfl rfl ?_
      refine s_iadd (pc' := 46) dX2_solveCost_45 rfl ?_
      refine s_istore (pc' := 48) (ls' := [some (vR a0), some (vI a1), some (vR a2), none, some (vI a4), some (vI a5), some (vI a6), some (vI a7), some (vI (a8 + a7)), some (vI a9)]) dX2_solveCost_46 (by decide) rfl rfl ?_
      exact V
set_option maxRecDepth 20000 in
theorem r_X2_solveCost_48 {w : WS} {h : AH} {Q : AH → Prop} {a0 a1 a2 a4 a5 a6 a7 a8 a9 : Int} (V : (wt w a2 = 10 ∧ (inR a6 ∧ inR (h a2 4) ∧ (((h a2 4) ≤ a6 → (wt w a0 = 12 ∧ CV mX2_tryNext [vR a0, vI a1, vI a9, vI (a5 + a8)] w h (fun h5 => XV mX2_solveCost 26 [some (vR a0), some (vI a1), some (vR a2), none, some (vI a4), some (vI a5), some (vI a6), some (vI a7), some (vI a8), some (vI (a9 + 1))] [] w h5 Q))) ∧ (¬ (h a2 4) ≤ a6 → (shCalls w a2 ∧ szC w h a2 ∧ (inR (if 0 ≤ a6 ∧ a6 < h a2 4 then h (a2 + 1) a6 else -1) ∧ inR a9 ∧ ((¬ (if 0 ≤ a6 ∧ a6 < h a2 4 then h (a2 + 1) a6 else -1) = a9 → (wt w a0 = 12 ∧ CV mX2_tryNext [vR a0, vI a1, vI a9, vI (a5 + a8)] w h (fun h11 => XV mX2_solveCost 26 [some (vR a0), some (vI a1), some (vR a2), none, some (vI a4), some (vI a5), some (vI a6), some (vI a7), some (vI a8), some (vI (a9 + 1))] [] w h11 Q))) ∧ ((if 0 ≤ a6 ∧ a6 < h a2 4 then h (a2 + 1) a6 else -1) = a9 → (∀ y12, y12 = (a7 + (if 0 ≤ a6 ∧ a6 < h a2 4 then h (a2 + 3) a6 else -1)) → XV mX2_solveCost 48 [some (vR a0), some (vI a1), some (vR a2), none, some (vI a4), some (vI a5), some (vI (a6 + 1)), some (vI y12), some (vI a8), some (vI a9)] [] w h Q)))))))))) : XV mX2_solveCost 48 [some (vR a0), some (vI a1), some (vR a2), none, some (vI a4), some (vI a5), some (vI a6), some (vI a7), some (vI a8), some (vI a9)] [] w h Q := by
  refine s_iload (pc' := 50) (x := a6) dX2_solveCost_48 rfl rfl ?_
  refine s_aload_n (pc' := 51) (x := a2) dX2_solveCost_50 rfl rfl ?_
  obtain ⟨z1, V⟩ := V
  refine s_callV (pc' := 54) (av := []) (a := a2) (sk := [vI a6]) (kc := 0) dX2_solveCost_51 ml_2_42 okX0_size oiX0_size (by decide) (NF := 5) rfl z1 rfl (Nat.le_of_ble_eq_true rfl) (Nat.le_refl 0) (Nat.le_refl 0) rfl (CI.eon (c_X0_size z1) ?_)
  obtain ⟨z2, z3, V⟩ := V
  obtain ⟨V16, V17⟩ := V
  refine s_icmp_ge (pc' := 57) (tgt := 85) dX2_solveCost_54 rfl rfl z2 z3 (fun c => ?_) (fun c => ?_)
  · have V := V16 c
    refine s_aload_n (pc' := 86) (x := a0) dX2_solveCost_85 rfl rfl ?_
    refine s_iload_n (pc' := 87) (x := a1) dX2_solveCost_86 rfl rfl ?_
    refine s_iload (pc' := 89) (x := a9) dX2_solveCost_87 rfl rfl ?_
    refine s_iload (pc' := 91) (x := a5) dX2_solveCost_89 rfl rfl ?_
    refine s_iload (pc' := 93) (x := a8) dX2_solveCost_91 rfl rfl ?_
    refine s_iadd (pc' := 94) dX2_solveCost_93 rfl ?_
    obtain ⟨z4, V⟩ := V
    refine s_callV (pc' := 97) (av := [vI a1, vI a9, vI (a5 + a8)]) (a := a0) (sk := []) (kc := 2) dX2_solveCost_94 ml_2_93 okX2_tryNext oiX2_tryNext (by decide) (NF := 3) rfl z4 rfl (Nat.le_of_ble_eq_true rfl) (Nat.le_refl 0) (Nat.le_refl 0) rfl (CV.on V (fun h5 V => ?_))
    refine s_iinc (pc' := 100) (ls' := [some (vR a0), some (vI a1), some (vR a2), none, some (vI a4), some (vI a5), some (vI a6), some (vI a7), some (vI a8), some (vI (a9 + 1))]) dX2_solveCost_97 rfl (by decide) rfl rfl ?_
    refine s_goto (tgt := 26) dX2_solveCost_100 rfl ?_
    exact V
  · have V := V17 c
    refine s_aload_n (pc' := 58) (x := a2) dX2_solveCost_57 rfl rfl ?_
    refine s_iload (pc' := 60) (x := a6) dX2_solveCost_58 rfl rfl ?_
    obtain ⟨z6, z7, V⟩ := V
    refine s_callV (pc' := 63) (av := [vI a6]) (a := a2) (sk := []) (kc := 0) dX2_solveCost_60 ml_2_52 okX0_fromOf oiX0_fromOf (by decide) (NF := 5) rfl z1 rfl (Nat.le_of_ble_eq_true rfl) (Nat.le_refl 0) (Nat.le_refl 0) rfl (CI.eon (c_X0_fromOf z6 z2 z7) ?_)
    refine s_iload (pc' := 65) (x := a9) dX2_solveCost_63 rfl rfl ?_
    obtain ⟨z8, z9, V⟩ := V
    obtain ⟨V14, V15⟩ := V
    refine s_icmp_ne (pc' := 68) (tgt := 85) dX2_solveCost_65 rfl rfl z8 z9 (fun c => ?_) (fun c => ?_)
    · have V := V14 c
      refine s_aload_n (pc' := 86) (x := a0) dX2_solveCost_85 rfl rfl ?_
      refine s_iload_n (pc' := 87) (x := a1) dX2_solveCost_86 rfl rfl ?_
      refine s_iload (pc' := 89) (x := a9) dX2_solveCost_87 rfl rfl ?_
      refine s_iload (pc' := 91) (x := a5) dX2_solveCost_89 rfl rfl ?_
      refine s_iload (pc' := 93) (x := a8) dX2_solveCost_91 rfl rfl ?_
      refine s_iadd (pc' := 94) dX2_solveCost_93 rfl ?_
      obtain ⟨z10, V⟩ := V
      refine s_callV (pc' := 97) (av := [vI a1, vI a9, vI (a5 + a8)]) (a := a0) (sk := []) (kc := 2) dX2_solveCost_94 ml_2_93 okX2_tryNext oiX2_tryNext (by decide) (NF := 3) rfl z10 rfl (Nat.le_of_ble_eq_true rfl) (Nat.le_refl 0) (Nat.le_refl 0) rfl (CV.on V (fun h11 V => ?_))
      refine s_iinc (pc' := 100) (ls' := [some (vR a0), some (vI a1), some (vR a2), none, some (vI a4), some (vI a5), some (vI a6), some (vI a7), some (vI a8), some (vI (a9 + 1))]) dX2_solveCost_97 rfl (by decide) rfl rfl ?_
      refine s_goto (tgt := 26) dX2_solveCost_100 rfl ?_
      exact V
    · have V := V15 c
      refine s_iload (pc' := 70) (x := a7) dX2_solveCost_68 rfl rfl ?_
      refine s_aload_n (pc' := 71) (x := a2) dX2_solveCost_70 rfl rfl ?_
      refine s_iload (pc' := 73) (x := a6) dX2_solveCost_71 rfl rfl ?_
      refine s_callV (pc' := 76) (av := [vI a6]) (a := a2) (sk := [vI a7]) (kc := 0) dX2_solveCost_73 ml_2_97 okX0_weightOf oiX0_weightOf (by decide) (NF := 5) rfl z1 rfl (Nat.le_of_ble_eq_true rfl) (Nat.le_refl 0) (Nat.le_refl 0) rfl (CI.eon (c_X0_weightOf z6 z2 z7) ?_)
      refine s_iadd (pc' := 77) dX2_solveCost_76 rfl ?_
      obtain ⟨y12, e13⟩ : ∃ q, q = (a7 + (if 0 ≤ a6 ∧ a6 < h a2 4 then h (a2 + 3) a6 else -1)) := ⟨_, rfl⟩
      rw [← e13]
      have V := V y12 e13
      refine s_istore (pc' := 79) (ls' := [some (vR a0), some (vI a1), some (vR a2), none, some (vI a4), some (vI a5), some (vI a6), some (vI y12), some (vI a8), some (vI a9)]) dX2_solveCost_77 (by decide) rfl rfl ?_
      refine s_iinc (pc' := 82) (ls' := [some (vR a0), some (vI a1), some (vR a2), none, some (vI a4), some (vI a5), some (vI (a6 + 1)), some (vI y12), some (vI a8), some (vI a9)]) dX2_solveCost_79 rfl (by decide) rfl rfl ?_
      refine s_goto (tgt := 48) dX2_solveCost_82 rfl ?_
      exact V
theorem e_X2_solve {w : WS} {h : AH} {Q : AH → Prop} {a0 a1 a2 a3 : Int} (X : XV mX2_solve 0 [some (vR a0), some (vR a1), some (vR a2), some (vI a3), none, none, none, none] [] w h Q) : CV mX2_solve [vR a0, vR a1, vR a2, vI a3] w h Q := CA.of (M := mX2_solve) (by decide) rfl (Nat.le_of_ble_eq_true rfl) X
set_option maxRecDepth 20000 in
theorem r_X2_solve_0 {w : WS} {h : AH} {Q : AH → Prop} {a0 a1 a2 a3 : Int} (V : (wt w a1 = 10 ∧ (wt w a2 = 15 ∧ (inR (h a2 9) ∧ XV mX2_solve 22 [some (vR a0), some (vR a1), some (vR a2), some (vI a3), some (vI (h a1 4)), some (vI 1000000), some (vI (min (h a2 9) 300)), none] [] w h Q)))) : XV mX2_solve 0 [some (vR a0), some (vR a1), some (vR a2), some (vI a3), none, none, none, none] [] w h Q := by
  refine s_aload_n (pc' := 1) (x := a1) dX2_solve_0 rfl rfl ?_
  obtain ⟨z1, V⟩ := V
  refine s_callV (pc' := 4) (av := []) (a := a1) (sk := []) (kc := 0) dX2_solve_1 ml_2_42 okX0_size oiX0_size (by decide) (NF := 5) rfl z1 rfl (Nat.le_of_ble_eq_true rfl) (Nat.le_refl 0) (Nat.le_refl 0) rfl (CI.eon (c_X0_size z1) ?_)
  refine s_istore (pc' := 6) (ls' := [some (vR a0), some (vR a1), some (vR a2), some (vI a3), some (vI (h a1 4)), none, none, none]) dX2_solve_4 (by decide) rfl rfl ?_
  refine s_ldc (pc' := 8) (x := 1000000) dX2_solve_6 cst_2_77 rfl rfl ?_
  refine s_istore (pc' := 10) (ls' := [some (vR a0), some (vR a1), some (vR a2), some (vI a3), some (vI (h a1 4)), some (vI 1000000), none, none]) dX2_solve_8 (by decide) rfl rfl ?_
  refine s_aload_n (pc' := 11) (x := a2) dX2_solve_10 rfl rfl ?_
  obtain ⟨z2, V⟩ := V
  refine s_callV (pc' := 14) (av := []) (a := a2) (sk := []) (kc := 5) dX2_solve_11 ml_2_65 okX5_length oiX5_length (by decide) (NF := 12) rfl z2 rfl (Nat.le_of_ble_eq_true rfl) (Nat.le_refl 0) (Nat.le_refl 0) rfl (CI.eon (c_X5_length z2) ?_)
  refine s_sipush (pc' := 17) dX2_solve_14 (by decide) rfl ?_
  obtain ⟨z3, V⟩ := V
  refine s_min (pc' := 20) dX2_solve_17 ml_2_59 mst_min mini_Math mcode_min (by decide) (Nat.le_of_ble_eq_true rfl) z3 (by decide) rfl ?_
  refine s_istore (pc' := 22) (ls' := [some (vR a0), some (vR a1), some (vR a2), some (vI a3), some (vI (h a1 4)), some (vI 1000000), some (vI (min (h a2 9) 300)), none]) dX2_solve_20 (by decide) rfl rfl ?_
  exact V
set_option maxRecDepth 20000 in
theorem r_X2_solve_22 {w : WS} {h : AH} {Q : AH → Prop} {a0 a1 a2 a3 a4 a5 a6 : Int} (V : (inR a6 ∧ ((a6 < (-1) → Q h) ∧ (¬ a6 < (-1) → XV mX2_solve 28 [some (vR a0), some (vR a1), some (vR a2), some (vI a3), some (vI a4), some (vI a5), some (vI a6), none] [] w h Q)))) : XV mX2_solve 22 [some (vR a0), some (vR a1), some (vR a2), some (vI a3), some (vI a4), some (vI a5), some (vI a6), none] [] w h Q := by
  refine s_iload (pc' := 24) (x := a6) dX2_solve_22 rfl rfl ?_
  refine s_iconst (pc' := 25) dX2_solve_24 rfl ?_
  obtain ⟨z1, V⟩ := V
  obtain ⟨V2, V3⟩ := V
  refine s_icmp_lt (pc' := 28) (tgt := 138) dX2_solve_25 rfl rfl z1 (by decide) (fun c => ?_) (fun c => ?_)
  · have V := V2 c
    exact s_vret dX2_solve_138 rfl ⟨rfl, rfl, V⟩
  · have V := V3 c
    exact V
set_option maxRecDepth 20000 in
theorem r_X2_solve_28 {w : WS} {h : AH} {Q : AH → Prop} {a0 a1 a2 a3 a4 a5 a6 : Int} (V : (inR a4 ∧ ((a4 ≤ 0 → XV mX2_solve 65 [some (vR a0), some (vR a1), some (vR a2), some (vI a3), some (vI a4), some (vI a5), some (vI a6), none] [] w h Q) ∧ (¬ a4 ≤ 0 → (wt w a1 = 10 ∧ shCalls w a1 ∧ inR (a4 - 1) ∧ szC w h a1 ∧ (inR (if 0 ≤ (a4 - 1) ∧ (a4 - 1) < h a1 4 then h (a1 + 1) (a4 - 1) else -1) ∧ inR a6 ∧ (((if 0 ≤ (a4 - 1) ∧ (a4 - 1) < h a1 4 then h (a1 + 1) (a4 - 1) else -1) ≤ a6 → XV mX2_solve 65 [some (vR a0), some (vR a1), some (vR a2), some (vI a3), some (vI a4), some (vI a5), some (vI a6), none] [] w h Q) ∧ (¬ (if 0 ≤ (a4 - 1) ∧ (a4 - 1) < h a1 4 then h (a1 + 1) (a4 - 1) else -1) ≤ a6 → (inR (a4 + (-1)) ∧ (inR a5 ∧ inR (if 0 ≤ (a4 + (-1)) ∧ (a4 + (-1)) < h a1 4 then h (a1 + 2) (a4 + (-1)) else -1) ∧ (∀ y11, y11 = (min a5 (if 0 ≤ (a4 + (-1)) ∧ (a4 + (-1)) < h a1 4 then h (a1 + 2) (a4 + (-1)) else -1)) → XV mX2_solve 28 [some (vR a0), some (vR a1), some (vR a2), some (vI a3), some (vI (a4 + (-1))), some (vI y11), some (vI a6), none] [] w h Q))))))))))) : XV mX2_solve 28 [some (vR a0), some (vR a1), some (vR a2), some (vI a3), some (vI a4), some (vI a5), some (vI a6), none] [] w h Q := by
  refine s_iload (pc' := 30) (x := a4) dX2_solve_28 rfl rfl ?_
  obtain ⟨z1, V⟩ := V
  obtain ⟨V15, V16⟩ := V
  refine s_if_le (pc' := 33) (tgt := 65) dX2_solve_30 rfl rfl z1 (fun c => ?_) (fun c => ?_)
  · have V := V15 c
    exact V
  · have V := V16 c
    refine s_aload_n (pc' := 34) (x := a1) dX2_solve_33 rfl rfl ?_
    refine s_iload (pc' := 36) (x := a4) dX2_solve_34 rfl rfl ?_
    refine s_iconst (pc' := 37) dX2_solve_36 rfl ?_
    refine s_isub (pc' := 38) dX2_solve_37 rfl ?_
    obtain ⟨z2, z3, z4, z5, V⟩ := V
    refine s_callV (pc' := 41) (av := [vI (a4 - 1)]) (a := a1) (sk := []) (kc := 0) dX2_solve_38 ml_2_52 okX0_fromOf oiX0_fromOf (by decide) (NF := 5) rfl z2 rfl (Nat.le_of_ble_eq_true rfl) (Nat.le_refl 0) (Nat.le_refl 0) rfl (CI.eon (c_X0_fromOf z3 z4 z5) ?_)
    refine s_iload (pc' := 43) (x := a6) dX2_solve_41 rfl rfl ?_
    obtain ⟨z6, z7, V⟩ := V
    obtain ⟨V13, V14⟩ := V
    refine s_icmp_le (pc' := 46) (tgt := 65) dX2_solve_43 rfl rfl z6 z7 (fun c => ?_) (fun c => ?_)
    · have V := V13 c
      exact V
    · have V := V14 c
      refine s_iinc (pc' := 49) (ls' := [some (vR a0), some (vR a1), some (vR a2), some (vI a3), some (vI (a4 + (-1))), some (vI a5), some (vI a6), none]) dX2_solve_46 rfl (by decide) rfl rfl ?_
      refine s_iload (pc' := 51) (x := a5) dX2_solve_49 rfl rfl ?_
      refine s_aload_n (pc' := 52) (x := a1) dX2_solve_51 rfl rfl ?_
      refine s_iload (pc' := 54) (x := (a4 + (-1))) dX2_solve_52 rfl rfl ?_
      obtain ⟨z8, V⟩ := V
      refine s_callV (pc' := 57) (av := [vI (a4 + (-1))]) (a := a1) (sk := [vI a5]) (kc := 0) dX2_solve_54 ml_2_48 okX0_latestOf oiX0_latestOf (by decide) (NF := 5) rfl z2 rfl (Nat.le_of_ble_eq_true rfl) (Nat.le_refl 0) (Nat.le_refl 0) rfl (CI.eon (c_X0_latestOf z3 z8 z5) ?_)
      obtain ⟨z9, z10, V⟩ := V
      refine s_min (pc' := 60) dX2_solve_57 ml_2_59 mst_min mini_Math mcode_min (by decide) (Nat.le_of_ble_eq_true rfl) z9 z10 rfl ?_
      obtain ⟨y11, e12⟩ : ∃ q, q = (min a5 (if 0 ≤ (a4 + (-1)) ∧ (a4 + (-1)) < h a1 4 then h (a1 + 2) (a4 + (-1)) else -1)) := ⟨_, rfl⟩
      rw [← e12]
      have V := V y11 e12
      refine s_istore (pc' := 62) (ls' := [some (vR a0), some (vR a1), some (vR a2), some (vI a3), some (vI (a4 + (-1))), some (vI y11), some (vI a6), none]) dX2_solve_60 (by decide) rfl rfl ?_
      refine s_goto (tgt := 28) dX2_solve_62 rfl ?_
      exact V
set_option maxRecDepth 20000 in
theorem r_X2_solve_65 {w : WS} {h : AH} {Q : AH → Prop} {a0 a1 a2 a3 a4 a5 a6 : Int} (V : (wt w a2 = 15 ∧ (wt w a1 = 10 ∧ (inR a4 ∧ inR (h a1 4) ∧ ((¬ a4 = (h a1 4) → (inR a3 ∧ ((a3 = 0 → (wt w a0 = 12 ∧ CV mX2_solveCost [vR a0, vI a6, vR a1, vI a4, vI a5, vI (h a2 10)] w h (fun h7 => XV mX2_solve 22 [some (vR a0), some (vR a1), some (vR a2), some (vI a3), some (vI a4), some (vI a5), some (vI (a6 + (-1))), none] [] w h7 Q))) ∧ (¬ a3 = 0 → (shCalls w a1 ∧ szC w h a1 ∧ (wt w a0 = 12 ∧ CV mX2_solveEnergy [vR a0, vI a6, vI (if 0 ≤ a4 ∧ a4 < h a1 4 then h (a1 + 1) a4 else -1), vI a5, vI (h a2 10), vI (h a2 11)] w h (fun h11 => XV mX2_solve 22 [some (vR a0), some (vR a1), some (vR a2), some (vI a3), some (vI a4), some (vI a5), some (vI (a6 + (-1))), none] [] w h11 Q))))))) ∧ (a4 = (h a1 4) → (wt w a0 = 12 ∧ CV mX2_setBest [vR a0, vI a6, vI 0, vI 0, vI (-1)] w h (fun h15 => XV mX2_solve 22 [some (vR a0), some (vR a1), some (vR a2), some (vI a3), some (vI a4), some (vI a5), some (vI (a6 + (-1))), none] [] w h15 Q)))))))) : XV mX2_solve 65 [some (vR a0), some (vR a1), some (vR a2), some (vI a3), some (vI a4), some (vI a5), some (vI a6), none] [] w h Q := by
  refine s_aload_n (pc' := 66) (x := a2) dX2_solve_65 rfl rfl ?_
  obtain ⟨z1, V⟩ := V
  refine s_callV (pc' := 69) (av := []) (a := a2) (sk := []) (kc := 5) dX2_solve_66 ml_2_70 okX5_wakePrice oiX5_wakePrice (by decide) (NF := 12) rfl z1 rfl (Nat.le_of_ble_eq_true rfl) (Nat.le_refl 0) (Nat.le_refl 0) rfl (CI.eon (c_X5_wakePrice z1) ?_)
  refine s_istore (pc' := 71) (ls' := [some (vR a0), some (vR a1), some (vR a2), some (vI a3), some (vI a4), some (vI a5), some (vI a6), some (vI (h a2 10))]) dX2_solve_69 (by decide) rfl rfl ?_
  refine s_iload (pc' := 73) (x := a4) dX2_solve_71 rfl rfl ?_
  refine s_aload_n (pc' := 74) (x := a1) dX2_solve_73 rfl rfl ?_
  obtain ⟨z2, V⟩ := V
  refine s_callV (pc' := 77) (av := []) (a := a1) (sk := [vI a4]) (kc := 0) dX2_solve_74 ml_2_42 okX0_size oiX0_size (by decide) (NF := 5) rfl z2 rfl (Nat.le_of_ble_eq_true rfl) (Nat.le_refl 0) (Nat.le_refl 0) rfl (CI.eon (c_X0_size z2) ?_)
  obtain ⟨z3, z4, V⟩ := V
  obtain ⟨V16, V17⟩ := V
  refine s_icmp_ne (pc' := 80) (tgt := 92) dX2_solve_77 rfl rfl z3 z4 (fun c => ?_) (fun c => ?_)
  · have V := V16 c
    refine s_iload_n (pc' := 93) (x := a3) dX2_solve_92 rfl rfl ?_
    obtain ⟨z5, V⟩ := V
    obtain ⟨V12, V13⟩ := V
    refine s_if_eq (pc' := 96) (tgt := 119) dX2_solve_93 rfl rfl z5 (fun c => ?_) (fun c => ?_)
    · have V := V12 c
      refine s_aload_n (pc' := 120) (x := a0) dX2_solve_119 rfl rfl ?_
      refine s_iload (pc' := 122) (x := a6) dX2_solve_120 rfl rfl ?_
      refine s_aload_n (pc' := 123) (x := a1) dX2_solve_122 rfl rfl ?_
      refine s_iload (pc' := 125) (x := a4) dX2_solve_123 rfl rfl ?_
      refine s_iload (pc' := 127) (x := a5) dX2_solve_125 rfl rfl ?_
      refine s_iload (pc' := 129) (x := (h a2 10)) dX2_solve_127 rfl rfl ?_
      obtain ⟨z6, V⟩ := V
      refine s_callV (pc' := 132) (av := [vI a6, vR a1, vI a4, vI a5, vI (h a2 10)]) (a := a0) (sk := []) (kc := 2) dX2_solve_129 ml_2_89 okX2_solveCost oiX2_solveCost (by decide) (NF := 3) rfl z6 rfl (Nat.le_of_ble_eq_true rfl) (Nat.le_refl 0) (Nat.le_refl 0) rfl (CV.on V (fun h7 V => ?_))
      refine s_iinc (pc' := 135) (ls' := [some (vR a0), some (vR a1), some (vR a2), some (vI a3), some (vI a4), some (vI a5), some (vI (a6 + (-1))), some (vI (h a2 10))]) dX2_solve_132 rfl (by decide) rfl rfl ?_
      refine s_goto (tgt := 22) dX2_solve_135 rfl ?_
      refine s_drop 7 (ls' := [some (vR a0), some (vR a1), some (vR a2), some (vI a3), some (vI a4), some (vI a5), some (vI (a6 + (-1))), none]) rfl ?_
      exact V
    · have V := V13 c
      refine s_aload_n (pc' := 97) (x := a0) dX2_solve_96 rfl rfl ?_
      refine s_iload (pc' := 99) (x := a6) dX2_solve_97 rfl rfl ?_
      refine s_aload_n (pc' := 100) (x := a1) dX2_solve_99 rfl rfl ?_
      refine s_iload (pc' := 102) (x := a4) dX2_solve_100 rfl rfl ?_
      obtain ⟨z8, z9, V⟩ := V
      refine s_callV (pc' := 105) (av := [vI a4]) (a := a1) (sk := [vI a6, vR a0]) (kc := 0) dX2_solve_102 ml_2_52 okX0_fromOf oiX0_fromOf (by decide) (NF := 5) rfl z2 rfl (Nat.le_of_ble_eq_true rfl) (Nat.le_refl 0) (Nat.le_refl 0) rfl (CI.eon (c_X0_fromOf z8 z3 z9) ?_)
      refine s_iload (pc' := 107) (x := a5) dX2_solve_105 rfl rfl ?_
      refine s_iload (pc' := 109) (x := (h a2 10)) dX2_solve_107 rfl rfl ?_
      refine s_aload_n (pc' := 110) (x := a2) dX2_solve_109 rfl rfl ?_
      refine s_callV (pc' := 113) (av := []) (a := a2) (sk := [vI (h a2 10), vI a5, vI (if 0 ≤ a4 ∧ a4 < h a1 4 then h (a1 + 1) a4 else -1), vI a6, vR a0]) (kc := 5) dX2_solve_110 ml_2_82 okX5_stay oiX5_stay (by decide) (NF := 12) rfl z1 rfl (Nat.le_of_ble_eq_true rfl) (Nat.le_refl 0) (Nat.le_refl 0) rfl (CI.eon (c_X5_stay z1) ?_)
      obtain ⟨z10, V⟩ := V
      refine s_callV (pc' := 116) (av := [vI a6, vI (if 0 ≤ a4 ∧ a4 < h a1 4 then h (a1 + 1) a4 else -1), vI a5, vI (h a2 10), vI (h a2 11)]) (a := a0) (sk := []) (kc := 2) dX2_solve_113 ml_2_85 okX2_solveEnergy oiX2_solveEnergy (by decide) (NF := 3) rfl z10 rfl (Nat.le_of_ble_eq_true rfl) (Nat.le_refl 0) (Nat.le_refl 0) rfl (CV.on V (fun h11 V => ?_))
      refine s_goto (tgt := 132) dX2_solve_116 rfl ?_
      refine s_iinc (pc' := 135) (ls' := [some (vR a0), some (vR a1), some (vR a2), some (vI a3), some (vI a4), some (vI a5), some (vI (a6 + (-1))), some (vI (h a2 10))]) dX2_solve_132 rfl (by decide) rfl rfl ?_
      refine s_goto (tgt := 22) dX2_solve_135 rfl ?_
      refine s_drop 7 (ls' := [some (vR a0), some (vR a1), some (vR a2), some (vI a3), some (vI a4), some (vI a5), some (vI (a6 + (-1))), none]) rfl ?_
      exact V
  · have V := V17 c
    refine s_aload_n (pc' := 81) (x := a0) dX2_solve_80 rfl rfl ?_
    refine s_iload (pc' := 83) (x := a6) dX2_solve_81 rfl rfl ?_
    refine s_iconst (pc' := 84) dX2_solve_83 rfl ?_
    refine s_iconst (pc' := 85) dX2_solve_84 rfl ?_
    refine s_iconst (pc' := 86) dX2_solve_85 rfl ?_
    obtain ⟨z14, V⟩ := V
    refine s_callV (pc' := 89) (av := [vI a6, vI 0, vI 0, vI (-1)]) (a := a0) (sk := []) (kc := 2) dX2_solve_86 ml_2_78 okX2_setBest oiX2_setBest (by decide) (NF := 3) rfl z14 rfl (Nat.le_of_ble_eq_true rfl) (Nat.le_refl 0) (Nat.le_refl 0) rfl (CV.on V (fun h15 V => ?_))
    refine s_goto (tgt := 132) dX2_solve_89 rfl ?_
    refine s_iinc (pc' := 135) (ls' := [some (vR a0), some (vR a1), some (vR a2), some (vI a3), some (vI a4), some (vI a5), some (vI (a6 + (-1))), some (vI (h a2 10))]) dX2_solve_132 rfl (by decide) rfl rfl ?_
    refine s_goto (tgt := 22) dX2_solve_135 rfl ?_
    refine s_drop 7 (ls' := [some (vR a0), some (vR a1), some (vR a2), some (vI a3), some (vI a4), some (vI a5), some (vI (a6 + (-1))), none]) rfl ?_
    exact V
theorem e_X2_follow {w : WS} {h : AH} {Q : AH → Prop} {a0 a1 : Int} (X : XV mX2_follow 0 [some (vR a0), some (vR a1), none, none, none] [] w h Q) : CV mX2_follow [vR a0, vR a1] w h Q := CA.of (M := mX2_follow) (by decide) rfl (Nat.le_of_ble_eq_true rfl) X
set_option maxRecDepth 20000 in
theorem r_X2_follow_0 {w : WS} {h : AH} {Q : AH → Prop} {a0 a1 : Int} (V : XV mX2_follow 4 [some (vR a0), some (vR a1), some (vI 0), some (vI 0), none] [] w h Q) : XV mX2_follow 0 [some (vR a0), some (vR a1), none, none, none] [] w h Q := by
  refine s_iconst (pc' := 1) dX2_follow_0 rfl ?_
  refine s_istore_n (pc' := 2) (ls' := [some (vR a0), some (vR a1), some (vI 0), none, none]) dX2_follow_1 (by decide) rfl rfl ?_
  refine s_iconst (pc' := 3) dX2_follow_2 rfl ?_
  refine s_istore_n (pc' := 4) (ls' := [some (vR a0), some (vR a1), some (vI 0), some (vI 0), none]) dX2_follow_3 (by decide) rfl rfl ?_
  exact V
set_option maxRecDepth 20000 in
theorem r_X2_follow_4 {w : WS} {h : AH} {Q : AH → Prop} {a0 a1 a2 a3 : Int} (V : (wt w a0 = 12 ∧ (wt w (wf w a0 2) = 1 ∧ (inR a3 ∧ inR (wl w (wf w a0 2)) ∧ (((wl w (wf w a0 2)) ≤ a3 → Q h) ∧ (¬ (wl w (wf w a0 2)) ≤ a3 → (inR a2 ∧ ((a2 < 0 → Q h) ∧ (¬ a2 < 0 → (((wl w (wf w a0 2)) ≤ a2 → Q h) ∧ (¬ (wl w (wf w a0 2)) ≤ a2 → (0 ≤ a2 ∧ a2 < wl w (wf w a0 2) ∧ (inR (h (wf w a0 2) a2) ∧ ((¬ (h (wf w a0 2) a2) = (-1) → (wt w a1 = 17 ∧ CV mX7_add [vR a1, vI (h (wf w a0 2) a2)] w h (fun h10 => XV mX2_follow 4 [some (vR a0), some (vR a1), some (vI ((h (wf w a0 2) a2) + 1)), some (vI (a3 + 1)), none] [] w h10 Q))) ∧ ((h (wf w a0 2) a2) = (-1) → Q h))))))))))))))) : XV mX2_follow 4 [some (vR a0), some (vR a1), some (vI a2), some (vI a3), none] [] w h Q := by
  refine s_iload_n (pc' := 5) (x := a3) dX2_follow_4 rfl rfl ?_
  refine s_aload_n (pc' := 6) (x := a0) dX2_follow_5 rfl rfl ?_
  obtain ⟨z1, V⟩ := V
  refine s_get (pc' := 9) (v := vR (wf w a0 2)) (kc := 2) (i := 2) dX2_follow_6 clX2 (by decide) fl_2_2 z1 (fun _ => rfl) rfl ?_
  obtain ⟨z2, V⟩ := V
  refine s_alen1 (pc' := 10) dX2_follow_9 z2 rfl ?_
  obtain ⟨z3, z4, V⟩ := V
  obtain ⟨V17, V18⟩ := V
  refine s_icmp_ge (pc' := 13) (tgt := 58) dX2_follow_10 rfl rfl z3 z4 (fun c => ?_) (fun c => ?_)
  · have V := V17 c
    exact s_vret dX2_follow_58 rfl ⟨rfl, rfl, V⟩
  · have V := V18 c
    refine s_iload_n (pc' := 14) (x := a2) dX2_follow_13 rfl rfl ?_
    obtain ⟨z5, V⟩ := V
    obtain ⟨V15, V16⟩ := V
    refine s_if_lt (pc' := 17) (tgt := 58) dX2_follow_14 rfl rfl z5 (fun c => ?_) (fun c => ?_)
    · have V := V15 c
      exact s_vret dX2_follow_58 rfl ⟨rfl, rfl, V⟩
    · have V := V16 c
      refine s_iload_n (pc' := 18) (x := a2) dX2_follow_17 rfl rfl ?_
      refine s_aload_n (pc' := 19) (x := a0) dX2_follow_18 rfl rfl ?_
      refine s_get (pc' := 22) (v := vR (wf w a0 2)) (kc := 2) (i := 2) dX2_follow_19 clX2 (by decide) fl_2_2 z1 (fun _ => rfl) rfl ?_
      refine s_alen1 (pc' := 23) dX2_follow_22 z2 rfl ?_
      obtain ⟨V13, V14⟩ := V
      refine s_icmp_ge (pc' := 26) (tgt := 58) dX2_follow_23 rfl rfl z5 z4 (fun c => ?_) (fun c => ?_)
      · have V := V13 c
        exact s_vret dX2_follow_58 rfl ⟨rfl, rfl, V⟩
      · have V := V14 c
        refine s_aload_n (pc' := 27) (x := a0) dX2_follow_26 rfl rfl ?_
        refine s_get (pc' := 30) (v := vR (wf w a0 2)) (kc := 2) (i := 2) dX2_follow_27 clX2 (by decide) fl_2_2 z1 (fun _ => rfl) rfl ?_
        refine s_iload_n (pc' := 31) (x := a2) dX2_follow_30 rfl rfl ?_
        obtain ⟨z6, z7, V⟩ := V
        refine s_iald (pc' := 32) dX2_follow_31 z2 z6 z7 rfl ?_
        refine s_istore (pc' := 34) (ls' := [some (vR a0), some (vR a1), some (vI a2), some (vI a3), some (vI (h (wf w a0 2) a2))]) dX2_follow_32 (by decide) rfl rfl ?_
        refine s_iload (pc' := 36) (x := (h (wf w a0 2) a2)) dX2_follow_34 rfl rfl ?_
        refine s_iconst (pc' := 37) dX2_follow_36 rfl ?_
        obtain ⟨z8, V⟩ := V
        obtain ⟨V11, V12⟩ := V
        refine s_icmp_ne (pc' := 40) (tgt := 41) dX2_follow_37 rfl rfl z8 (by decide) (fun c => ?_) (fun c => ?_)
        · have V := V11 c
          refine s_aload_n (pc' := 42) (x := a1) dX2_follow_41 rfl rfl ?_
          refine s_iload (pc' := 44) (x := (h (wf w a0 2) a2)) dX2_follow_42 rfl rfl ?_
          obtain ⟨z9, V⟩ := V
          refine s_callV (pc' := 47) (av := [vI (h (wf w a0 2) a2)]) (a := a1) (sk := []) (kc := 7) dX2_follow_44 ml_2_55 okX7_add oiX7_add (by decide) (NF := 2) rfl z9 rfl (Nat.le_of_ble_eq_true rfl) (Nat.le_refl 0) (Nat.le_refl 0) rfl (CV.on V (fun h10 V => ?_))
          refine s_iload (pc' := 49) (x := (h (wf w a0 2) a2)) dX2_follow_47 rfl rfl ?_
          refine s_iconst (pc' := 50) dX2_follow_49 rfl ?_
          refine s_iadd (pc' := 51) dX2_follow_50 rfl ?_
          refine s_istore_n (pc' := 52) (ls' := [some (vR a0), some (vR a1), some (vI ((h (wf w a0 2) a2) + 1)), some (vI a3), some (vI (h (wf w a0 2) a2))]) dX2_follow_51 (by decide) rfl rfl ?_
          refine s_iinc (pc' := 55) (ls' := [some (vR a0), some (vR a1), some (vI ((h (wf w a0 2) a2) + 1)), some (vI (a3 + 1)), some (vI (h (wf w a0 2) a2))]) dX2_follow_52 rfl (by decide) rfl rfl ?_
          refine s_goto (tgt := 4) dX2_follow_55 rfl ?_
          refine s_drop 4 (ls' := [some (vR a0), some (vR a1), some (vI ((h (wf w a0 2) a2) + 1)), some (vI (a3 + 1)), none]) rfl ?_
          exact V
        · have V := V12 c
          exact s_vret dX2_follow_40 rfl ⟨rfl, rfl, V⟩
theorem e_X2_make {w : WS} {h : AH} {Q : AH → Prop} {a0 a1 a2 a3 a4 : Int} (X : XV mX2_make 0 [some (vR a0), some (vI a1), some (vR a2), some (vR a3), some (vR a4)] [] w h Q) : CV mX2_make [vR a0, vI a1, vR a2, vR a3, vR a4] w h Q := CA.of (M := mX2_make) (by decide) rfl (Nat.le_of_ble_eq_true rfl) X
set_option maxRecDepth 20000 in
theorem r_X2_make_0 {w : WS} {h : AH} {Q : AH → Prop} {a0 a1 a2 a3 a4 : Int} (V : (wt w a4 = 17 ∧ (inR a1 ∧ ((a1 = 0 → (wt w a0 = 12 ∧ CV mX2_makeFewest [vR a0, vR a2, vR a4] w (st h a4 1 0) (fun h4 => Q h4))) ∧ (a1 = 1 → ((¬ a1 = 2 → (wt w a0 = 12 ∧ CV mX2_solve [vR a0, vR a2, vR a3, vI 0] w (st h a4 1 0) (fun h7 => CV mX2_follow [vR a0, vR a4] w h7 (fun h8 => Q h8)))) ∧ (a1 = 2 → (wt w a0 = 12 ∧ CV mX2_solve [vR a0, vR a2, vR a3, vI 1] w (st h a4 1 0) (fun h10 => CV mX2_follow [vR a0, vR a4] w h10 (fun h11 => Q h11)))))) ∧ (a1 = 2 → ((¬ a1 = 2 → (wt w a0 = 12 ∧ CV mX2_solve [vR a0, vR a2, vR a3, vI 0] w (st h a4 1 0) (fun h16 => CV mX2_follow [vR a0, vR a4] w h16 (fun h17 => Q h17)))) ∧ (a1 = 2 → (wt w a0 = 12 ∧ CV mX2_solve [vR a0, vR a2, vR a3, vI 1] w (st h a4 1 0) (fun h19 => CV mX2_follow [vR a0, vR a4] w h19 (fun h20 => Q h20)))))) ∧ ((a1 < 0 ∨ 2 < a1) → (wt w a0 = 12 ∧ CV mX2_makeLive [vR a0, vI (a1 - 3), vR a2, vR a3, vR a4] w (st h a4 1 0) (fun h25 => Q h25))))))) : XV mX2_make 0 [some (vR a0), some (vI a1), some (vR a2), some (vR a3), some (vR a4)] [] w h Q := by
  refine s_aload (pc' := 2) (x := a4) dX2_make_0 rfl rfl ?_
  obtain ⟨z1, V⟩ := V
  refine s_callV (pc' := 5) (av := []) (a := a4) (sk := []) (kc := 7) dX2_make_2 ml_2_21 okX7_clear oiX7_clear (by decide) (NF := 2) rfl z1 rfl (Nat.le_of_ble_eq_true rfl) (Nat.le_refl 0) (Nat.le_refl 0) rfl (CV.eon (c_X7_clear z1) ?_)
  refine s_iload_n (pc' := 6) (x := a1) dX2_make_5 rfl rfl ?_
  obtain ⟨z2, V⟩ := V
  obtain ⟨V5, V14, V23, V26⟩ := V
  by_cases c : a1 = 0
  · have V := V5 c
    refine s_tableIn (v := 0) (tgt := 32) dX2_make_6 c (by decide) (by decide) (by decide) rfl rfl ?_
    refine s_aload_n (pc' := 33) (x := a0) dX2_make_32 rfl rfl ?_
    refine s_aload_n (pc' := 34) (x := a2) dX2_make_33 rfl rfl ?_
    refine s_aload (pc' := 36) (x := a4) dX2_make_34 rfl rfl ?_
    obtain ⟨z3, V⟩ := V
    refine s_callV (pc' := 39) (av := [vR a2, vR a4]) (a := a0) (sk := []) (kc := 2) dX2_make_36 ml_2_26 okX2_makeFewest oiX2_makeFewest (by decide) (NF := 3) rfl z3 rfl (Nat.le_of_ble_eq_true rfl) (Nat.le_refl 0) (Nat.le_refl 0) rfl (CV.on V (fun h4 V => ?_))
    refine s_goto (tgt := 78) dX2_make_39 rfl ?_
    exact s_vret dX2_make_78 rfl ⟨rfl, rfl, V⟩
  have c0 := c
  by_cases c : a1 = 1
  · have V := V14 c
    refine s_tableIn (v := 1) (tgt := 42) dX2_make_6 c (by decide) (by decide) (by decide) rfl rfl ?_
    refine s_aload_n (pc' := 43) (x := a0) dX2_make_42 rfl rfl ?_
    refine s_aload_n (pc' := 44) (x := a2) dX2_make_43 rfl rfl ?_
    refine s_aload_n (pc' := 45) (x := a3) dX2_make_44 rfl rfl ?_
    refine s_iload_n (pc' := 46) (x := a1) dX2_make_45 rfl rfl ?_
    refine s_iconst (pc' := 47) dX2_make_46 rfl ?_
    obtain ⟨V12, V13⟩ := V
    refine s_icmp_ne (pc' := 50) (tgt := 54) dX2_make_47 rfl rfl z2 (by decide) (fun c => ?_) (fun c => ?_)
    · have V := V12 c
      refine s_iconst (pc' := 55) dX2_make_54 rfl ?_
      obtain ⟨z6, V⟩ := V
      refine s_callV (pc' := 58) (av := [vR a2, vR a3, vI 0]) (a := a0) (sk := []) (kc := 2) dX2_make_55 ml_2_30 okX2_solve oiX2_solve (by decide) (NF := 3) rfl z6 rfl (Nat.le_of_ble_eq_true rfl) (Nat.le_refl 0) (Nat.le_refl 0) rfl (CV.on V (fun h7 V => ?_))
      refine s_aload_n (pc' := 59) (x := a0) dX2_make_58 rfl rfl ?_
      refine s_aload (pc' := 61) (x := a4) dX2_make_59 rfl rfl ?_
      refine s_callV (pc' := 64) (av := [vR a4]) (a := a0) (sk := []) (kc := 2) dX2_make_61 ml_2_34 okX2_follow oiX2_follow (by decide) (NF := 3) rfl z6 rfl (Nat.le_of_ble_eq_true rfl) (Nat.le_refl 0) (Nat.le_refl 0) rfl (CV.on V (fun h8 V => ?_))
      refine s_goto (tgt := 78) dX2_make_64 rfl ?_
      exact s_vret dX2_make_78 rfl ⟨rfl, rfl, V⟩
    · have V := V13 c
      refine s_iconst (pc' := 51) dX2_make_50 rfl ?_
      refine s_goto (tgt := 55) dX2_make_51 rfl ?_
      obtain ⟨z9, V⟩ := V
      refine s_callV (pc' := 58) (av := [vR a2, vR a3, vI 1]) (a := a0) (sk := []) (kc := 2) dX2_make_55 ml_2_30 okX2_solve oiX2_solve (by decide) (NF := 3) rfl z9 rfl (Nat.le_of_ble_eq_true rfl) (Nat.le_refl 0) (Nat.le_refl 0) rfl (CV.on V (fun h10 V => ?_))
      refine s_aload_n (pc' := 59) (x := a0) dX2_make_58 rfl rfl ?_
      refine s_aload (pc' := 61) (x := a4) dX2_make_59 rfl rfl ?_
      refine s_callV (pc' := 64) (av := [vR a4]) (a := a0) (sk := []) (kc := 2) dX2_make_61 ml_2_34 okX2_follow oiX2_follow (by decide) (NF := 3) rfl z9 rfl (Nat.le_of_ble_eq_true rfl) (Nat.le_refl 0) (Nat.le_refl 0) rfl (CV.on V (fun h11 V => ?_))
      refine s_goto (tgt := 78) dX2_make_64 rfl ?_
      exact s_vret dX2_make_78 rfl ⟨rfl, rfl, V⟩
  have c1 := c
  by_cases c : a1 = 2
  · have V := V23 c
    refine s_tableIn (v := 2) (tgt := 42) dX2_make_6 c (by decide) (by decide) (by decide) rfl rfl ?_
    refine s_aload_n (pc' := 43) (x := a0) dX2_make_42 rfl rfl ?_
    refine s_aload_n (pc' := 44) (x := a2) dX2_make_43 rfl rfl ?_
    refine s_aload_n (pc' := 45) (x := a3) dX2_make_44 rfl rfl ?_
    refine s_iload_n (pc' := 46) (x := a1) dX2_make_45 rfl rfl ?_
    refine s_iconst (pc' := 47) dX2_make_46 rfl ?_
    obtain ⟨V21, V22⟩ := V
    refine s_icmp_ne (pc' := 50) (tgt := 54) dX2_make_47 rfl rfl z2 (by decide) (fun c => ?_) (fun c => ?_)
    · have V := V21 c
      refine s_iconst (pc' := 55) dX2_make_54 rfl ?_
      obtain ⟨z15, V⟩ := V
      refine s_callV (pc' := 58) (av := [vR a2, vR a3, vI 0]) (a := a0) (sk := []) (kc := 2) dX2_make_55 ml_2_30 okX2_solve oiX2_solve (by decide) (NF := 3) rfl z15 rfl (Nat.le_of_ble_eq_true rfl) (Nat.le_refl 0) (Nat.le_refl 0) rfl (CV.on V (fun h16 V => ?_))
      refine s_aload_n (pc' := 59) (x := a0) dX2_make_58 rfl rfl ?_
      refine s_aload (pc' := 61) (x := a4) dX2_make_59 rfl rfl ?_
      refine s_callV (pc' := 64) (av := [vR a4]) (a := a0) (sk := []) (kc := 2) dX2_make_61 ml_2_34 okX2_follow oiX2_follow (by decide) (NF := 3) rfl z15 rfl (Nat.le_of_ble_eq_true rfl) (Nat.le_refl 0) (Nat.le_refl 0) rfl (CV.on V (fun h17 V => ?_))
      refine s_goto (tgt := 78) dX2_make_64 rfl ?_
      exact s_vret dX2_make_78 rfl ⟨rfl, rfl, V⟩
    · have V := V22 c
      refine s_iconst (pc' := 51) dX2_make_50 rfl ?_
      refine s_goto (tgt := 55) dX2_make_51 rfl ?_
      obtain ⟨z18, V⟩ := V
      refine s_callV (pc' := 58) (av := [vR a2, vR a3, vI 1]) (a := a0) (sk := []) (kc := 2) dX2_make_55 ml_2_30 okX2_solve oiX2_solve (by decide) (NF := 3) rfl z18 rfl (Nat.le_of_ble_eq_true rfl) (Nat.le_refl 0) (Nat.le_refl 0) rfl (CV.on V (fun h19 V => ?_))
      refine s_aload_n (pc' := 59) (x := a0) dX2_make_58 rfl rfl ?_
      refine s_aload (pc' := 61) (x := a4) dX2_make_59 rfl rfl ?_
      refine s_callV (pc' := 64) (av := [vR a4]) (a := a0) (sk := []) (kc := 2) dX2_make_61 ml_2_34 okX2_follow oiX2_follow (by decide) (NF := 3) rfl z18 rfl (Nat.le_of_ble_eq_true rfl) (Nat.le_refl 0) (Nat.le_refl 0) rfl (CV.on V (fun h20 V => ?_))
      refine s_goto (tgt := 78) dX2_make_64 rfl ?_
      exact s_vret dX2_make_78 rfl ⟨rfl, rfl, V⟩
  have c2 := c
  have co : a1 < 0 ∨ 2 < a1 := by omega
  have V := V26 co
  refine s_tableOut (tgt := 67) dX2_make_6 z2 co rfl ?_
  refine s_aload_n (pc' := 68) (x := a0) dX2_make_67 rfl rfl ?_
  refine s_iload_n (pc' := 69) (x := a1) dX2_make_68 rfl rfl ?_
  refine s_iconst (pc' := 70) dX2_make_69 rfl ?_
  refine s_isub (pc' := 71) dX2_make_70 rfl ?_
  refine s_aload_n (pc' := 72) (x := a2) dX2_make_71 rfl rfl ?_
  refine s_aload_n (pc' := 73) (x := a3) dX2_make_72 rfl rfl ?_
  refine s_aload (pc' := 75) (x := a4) dX2_make_73 rfl rfl ?_
  obtain ⟨z24, V⟩ := V
  refine s_callV (pc' := 78) (av := [vI (a1 - 3), vR a2, vR a3, vR a4]) (a := a0) (sk := []) (kc := 2) dX2_make_75 ml_2_38 okX2_makeLive oiX2_makeLive (by decide) (NF := 3) rfl z24 rfl (Nat.le_of_ble_eq_true rfl) (Nat.le_refl 0) (Nat.le_refl 0) rfl (CV.on V (fun h25 V => ?_))
  exact s_vret dX2_make_78 rfl ⟨rfl, rfl, V⟩
