/-! ===== WakeSaver$Round ===== -/
def shRound (w : WS) (r : Int) : Prop := wt w r = 14 ∧ wf w r 0 = r + 1 ∧ wf w r 1 = r + 2 ∧ (wt w (r + 1) = 1 ∧ wt w (r + 2) = 1) ∧ (wl w (r + 1) = 360 ∧ wl w (r + 2) = 360)
theorem e_X4_exists {w : WS} {h : AH} {Q : Int → AH → Prop} {a0 : Int} (X : XI mX4_exists 0 [some (vR a0)] [] w h Q) : CI mX4_exists [vR a0] w h Q := CA.of (M := mX4_exists) (by decide) rfl (Nat.le_of_ble_eq_true rfl) X
set_option maxRecDepth 20000 in
theorem r_X4_exists_0 {w : WS} {h : AH} {Q : Int → AH → Prop} {a0 : Int} (V : (wt w a0 = 14 ∧ (inR (h a0 4) ∧ (((h a0 4) ≤ 0 → Q 0 h) ∧ (¬ (h a0 4) ≤ 0 → Q 1 h))))) : XI mX4_exists 0 [some (vR a0)] [] w h Q := by
  refine s_aload_n (pc' := 1) (x := a0) dX4_exists_0 rfl rfl ?_
  obtain ⟨z1, V⟩ := V
  refine s_get (pc' := 4) (v := vI (h a0 4)) (kc := 4) (i := 4) dX4_exists_1 clX4 (by decide) fl_4_4 z1 (fun _ => rfl) rfl ?_
  obtain ⟨z2, V⟩ := V
  obtain ⟨V3, V4⟩ := V
  refine s_if_le (pc' := 7) (tgt := 11) dX4_exists_4 rfl rfl z2 (fun c => ?_) (fun c => ?_)
  · have V := V3 c
    refine s_iconst (pc' := 12) dX4_exists_11 rfl ?_
    exact s_zret dX4_exists_12 rfl (by decide) ⟨_, rfl, rfl, V⟩
  · have V := V4 c
    refine s_iconst (pc' := 8) dX4_exists_7 rfl ?_
    refine s_goto (tgt := 12) dX4_exists_8 rfl ?_
    exact s_zret dX4_exists_12 rfl (by decide) ⟨_, rfl, rfl, V⟩
theorem e_X4_hyper {w : WS} {h : AH} {Q : Int → AH → Prop} {a0 : Int} (X : XI mX4_hyper 0 [some (vR a0)] [] w h Q) : CI mX4_hyper [vR a0] w h Q := CA.of (M := mX4_hyper) (by decide) rfl (Nat.le_of_ble_eq_true rfl) X
set_option maxRecDepth 20000 in
theorem r_X4_hyper_0 {w : WS} {h : AH} {Q : Int → AH → Prop} {a0 : Int} (V : (wt w a0 = 14 ∧ Q (h a0 2) h)) : XI mX4_hyper 0 [some (vR a0)] [] w h Q := by
  refine s_aload_n (pc' := 1) (x := a0) dX4_hyper_0 rfl rfl ?_
  obtain ⟨z1, V⟩ := V
  refine s_get (pc' := 4) (v := vI (h a0 2)) (kc := 4) (i := 2) dX4_hyper_1 clX4 (by decide) fl_4_2 z1 (fun _ => rfl) rfl ?_
  exact s_iret dX4_hyper_4 rfl ⟨_, rfl, rfl, V⟩
theorem e_X4_callsByHyper {w : WS} {h : AH} {Q : Int → AH → Prop} {a0 : Int} (X : XI mX4_callsByHyper 0 [some (vR a0)] [] w h Q) : CI mX4_callsByHyper [vR a0] w h Q := CA.of (M := mX4_callsByHyper) (by decide) rfl (Nat.le_of_ble_eq_true rfl) X
set_option maxRecDepth 20000 in
theorem r_X4_callsByHyper_0 {w : WS} {h : AH} {Q : Int → AH → Prop} {a0 : Int} (V : (wt w a0 = 14 ∧ Q (h a0 3) h)) : XI mX4_callsByHyper 0 [some (vR a0)] [] w h Q := by
  refine s_aload_n (pc' := 1) (x := a0) dX4_callsByHyper_0 rfl rfl ?_
  obtain ⟨z1, V⟩ := V
  refine s_get (pc' := 4) (v := vI (h a0 3)) (kc := 4) (i := 3) dX4_callsByHyper_1 clX4 (by decide) fl_4_3 z1 (fun _ => rfl) rfl ?_
  exact s_iret dX4_callsByHyper_4 rfl ⟨_, rfl, rfl, V⟩
theorem e_X4_size {w : WS} {h : AH} {Q : Int → AH → Prop} {a0 : Int} (X : XI mX4_size 0 [some (vR a0)] [] w h Q) : CI mX4_size [vR a0] w h Q := CA.of (M := mX4_size) (by decide) rfl (Nat.le_of_ble_eq_true rfl) X
set_option maxRecDepth 20000 in
theorem r_X4_size_0 {w : WS} {h : AH} {Q : Int → AH → Prop} {a0 : Int} (V : (wt w a0 = 14 ∧ Q (h a0 4) h)) : XI mX4_size 0 [some (vR a0)] [] w h Q := by
  refine s_aload_n (pc' := 1) (x := a0) dX4_size_0 rfl rfl ?_
  obtain ⟨z1, V⟩ := V
  refine s_get (pc' := 4) (v := vI (h a0 4)) (kc := 4) (i := 4) dX4_size_1 clX4 (by decide) fl_4_4 z1 (fun _ => rfl) rfl ?_
  exact s_iret dX4_size_4 rfl ⟨_, rfl, rfl, V⟩
theorem e_X4_start {w : WS} {h : AH} {Q : Int → AH → Prop} {a0 : Int} (X : XI mX4_start 0 [some (vR a0)] [] w h Q) : CI mX4_start [vR a0] w h Q := CA.of (M := mX4_start) (by decide) rfl (Nat.le_of_ble_eq_true rfl) X
set_option maxRecDepth 20000 in
theorem r_X4_start_0 {w : WS} {h : AH} {Q : Int → AH → Prop} {a0 : Int} (V : (wt w a0 = 14 ∧ Q (h a0 5) h)) : XI mX4_start 0 [some (vR a0)] [] w h Q := by
  refine s_aload_n (pc' := 1) (x := a0) dX4_start_0 rfl rfl ?_
  obtain ⟨z1, V⟩ := V
  refine s_get (pc' := 4) (v := vI (h a0 5)) (kc := 4) (i := 5) dX4_start_1 clX4 (by decide) fl_4_5 z1 (fun _ => rfl) rfl ?_
  exact s_iret dX4_start_4 rfl ⟨_, rfl, rfl, V⟩
section
variable {w : WS} {h : AH} {r : Int}
theorem c_X4_exists (s0 : wt w r = 14) (hn : inR (h r 4)) : CI mX4_exists [vR r] w h (fun x h' => x = (if 0 < h r 4 then 1 else 0) ∧ h' = h) := by
  refine e_X4_exists (r_X4_exists_0 ⟨s0, hn, fun q => ⟨?_, rfl⟩, fun q => ⟨?_, rfl⟩⟩)
  · rw [if_neg (by omega)]
  · rw [if_pos (by omega)]
theorem c_X4_hyper (s0 : wt w r = 14) : CI mX4_hyper [vR r] w h (fun x h' => x = h r 2 ∧ h' = h) := e_X4_hyper (r_X4_hyper_0 ⟨s0, rfl, rfl⟩)
theorem c_X4_callsByHyper (s0 : wt w r = 14) : CI mX4_callsByHyper [vR r] w h (fun x h' => x = h r 3 ∧ h' = h) := e_X4_callsByHyper (r_X4_callsByHyper_0 ⟨s0, rfl, rfl⟩)
theorem c_X4_size (s0 : wt w r = 14) : CI mX4_size [vR r] w h (fun x h' => x = h r 4 ∧ h' = h) := e_X4_size (r_X4_size_0 ⟨s0, rfl, rfl⟩)
theorem c_X4_start (s0 : wt w r = 14) : CI mX4_start [vR r] w h (fun x h' => x = h r 5 ∧ h' = h) := e_X4_start (r_X4_start_0 ⟨s0, rfl, rfl⟩)
end
theorem e_X4_leastShared {w : WS} {h : AH} {Q : Int → AH → Prop} {a0 a1 : Int} (X : XI mX4_leastShared 0 [some (vI a0), some (vI a1), none] [] w h Q) : CI mX4_leastShared [vI a0, vI a1] w h Q := CA.of (M := mX4_leastShared) (by decide) rfl (Nat.le_of_ble_eq_true rfl) X
set_option maxRecDepth 20000 in
theorem r_X4_leastShared_0 {w : WS} {h : AH} {Q : Int → AH → Prop} {a0 a1 : Int} (V : XI mX4_leastShared 2 [some (vI a0), some (vI a1), some (vI 1)] [] w h Q) : XI mX4_leastShared 0 [some (vI a0), some (vI a1), none] [] w h Q := by
  refine s_iconst (pc' := 1) dX4_leastShared_0 rfl ?_
  refine s_istore_n (pc' := 2) (ls' := [some (vI a0), some (vI a1), some (vI 1)]) dX4_leastShared_1 (by decide) rfl rfl ?_
  exact V
set_option maxRecDepth 20000 in
theorem r_X4_leastShared_2 {w : WS} {h : AH} {Q : Int → AH → Prop} {a0 a1 a2 : Int} (V : (inR a2 ∧ inR a1 ∧ ((a1 < a2 → Q 0 h) ∧ (¬ a1 < a2 → ((a1 ≤ 0 → XI mX4_leastShared 2 [some (vI a0), some (vI a1), some (vI (a2 + 1))] [] w h Q) ∧ (¬ a1 ≤ 0 → ((0 ≤ (a0 * a2) ∧ (a0 * a2) ≤ 2147483647) ∧ (0 < a1 ∧ a1 ≤ 2147483647) ∧ (inR ((a0 * a2) % a1) ∧ ((¬ ((a0 * a2) % a1) = 0 → XI mX4_leastShared 2 [some (vI a0), some (vI a1), some (vI (a2 + 1))] [] w h Q) ∧ (((a0 * a2) % a1) = 0 → Q (a0 * a2) h)))))))))) : XI mX4_leastShared 2 [some (vI a0), some (vI a1), some (vI a2)] [] w h Q := by
  refine s_iload_n (pc' := 3) (x := a2) dX4_leastShared_2 rfl rfl ?_
  refine s_iload_n (pc' := 4) (x := a1) dX4_leastShared_3 rfl rfl ?_
  obtain ⟨z1, z2, V⟩ := V
  obtain ⟨V10, V11⟩ := V
  refine s_icmp_gt (pc' := 7) (tgt := 29) dX4_leastShared_4 rfl rfl z1 z2 (fun c => ?_) (fun c => ?_)
  · have V := V10 c
    refine s_iconst (pc' := 30) dX4_leastShared_29 rfl ?_
    exact s_iret dX4_leastShared_30 rfl ⟨_, rfl, rfl, V⟩
  · have V := V11 c
    refine s_iload_n (pc' := 8) (x := a1) dX4_leastShared_7 rfl rfl ?_
    obtain ⟨V8, V9⟩ := V
    refine s_if_le (pc' := 11) (tgt := 23) dX4_leastShared_8 rfl rfl z2 (fun c => ?_) (fun c => ?_)
    · have V := V8 c
      refine s_iinc (pc' := 26) (ls' := [some (vI a0), some (vI a1), some (vI (a2 + 1))]) dX4_leastShared_23 rfl (by decide) rfl rfl ?_
      refine s_goto (tgt := 2) dX4_leastShared_26 rfl ?_
      exact V
    · have V := V9 c
      refine s_iload_n (pc' := 12) (x := a0) dX4_leastShared_11 rfl rfl ?_
      refine s_iload_n (pc' := 13) (x := a2) dX4_leastShared_12 rfl rfl ?_
      refine s_imul (pc' := 14) dX4_leastShared_13 rfl ?_
      refine s_iload_n (pc' := 15) (x := a1) dX4_leastShared_14 rfl rfl ?_
      obtain ⟨z3, z4, V⟩ := V
      refine s_irem (pc' := 16) dX4_leastShared_15 z3 z4 rfl ?_
      obtain ⟨z5, V⟩ := V
      obtain ⟨V6, V7⟩ := V
      refine s_if_ne (pc' := 19) (tgt := 23) dX4_leastShared_16 rfl rfl z5 (fun c => ?_) (fun c => ?_)
      · have V := V6 c
        refine s_iinc (pc' := 26) (ls' := [some (vI a0), some (vI a1), some (vI (a2 + 1))]) dX4_leastShared_23 rfl (by decide) rfl rfl ?_
        refine s_goto (tgt := 2) dX4_leastShared_26 rfl ?_
        exact V
      · have V := V7 c
        refine s_iload_n (pc' := 20) (x := a0) dX4_leastShared_19 rfl rfl ?_
        refine s_iload_n (pc' := 21) (x := a2) dX4_leastShared_20 rfl rfl ?_
        refine s_imul (pc' := 22) dX4_leastShared_21 rfl ?_
        exact s_iret dX4_leastShared_22 rfl ⟨_, rfl, rfl, V⟩
theorem e_X4_hyperOf {w : WS} {h : AH} {Q : Int → AH → Prop} {a0 : Int} (X : XI mX4_hyperOf 0 [some (vR a0), none, none, none] [] w h Q) : CI mX4_hyperOf [vR a0] w h Q := CA.of (M := mX4_hyperOf) (by decide) rfl (Nat.le_of_ble_eq_true rfl) X
set_option maxRecDepth 20000 in
theorem r_X4_hyperOf_0 {w : WS} {h : AH} {Q : Int → AH → Prop} {a0 : Int} (V : XI mX4_hyperOf 4 [some (vR a0), some (vI 0), some (vI 0), none] [] w h Q) : XI mX4_hyperOf 0 [some (vR a0), none, none, none] [] w h Q := by
  refine s_iconst (pc' := 1) dX4_hyperOf_0 rfl ?_
  refine s_istore_n (pc' := 2) (ls' := [some (vR a0), some (vI 0), none, none]) dX4_hyperOf_1 (by decide) rfl rfl ?_
  refine s_iconst (pc' := 3) dX4_hyperOf_2 rfl ?_
  refine s_istore_n (pc' := 4) (ls' := [some (vR a0), some (vI 0), some (vI 0), none]) dX4_hyperOf_3 (by decide) rfl rfl ?_
  exact V
set_option maxRecDepth 20000 in
theorem r_X4_hyperOf_4 {w : WS} {h : AH} {Q : Int → AH → Prop} {a0 a1 a2 : Int} (V : (wt w a0 = 15 ∧ (inR a2 ∧ inR (h a0 8) ∧ (((h a0 8) ≤ a2 → Q a1 h) ∧ (¬ (h a0 8) ≤ a2 → (shSetup w a0 ∧ (0 ≤ h a0 8 ∧ h a0 8 ≤ 24) ∧ (∀ y6, y6 = (if 0 ≤ a2 ∧ a2 < h a0 8 then h (a0 + 6) a2 else 0) → (inR y6 ∧ ((y6 ≤ 0 → XI mX4_hyperOf 4 [some (vR a0), some (vI a1), some (vI (a2 + 1)), none] [] w h Q) ∧ (¬ y6 ≤ 0 → (inR a1 ∧ ((¬ a1 = 0 → CI mX4_leastShared [vI a1, vI y6] w h (fun x11 h10 => (inR x11 ∧ ((x11 = 0 → Q 0 h10) ∧ (¬ x11 = 0 → ((x11 ≤ 360 → XI mX4_hyperOf 4 [some (vR a0), some (vI x11), some (vI (a2 + 1)), none] [] w h10 Q) ∧ (¬ x11 ≤ 360 → Q 0 h10))))))) ∧ (a1 = 0 → ((y6 = 0 → Q 0 h) ∧ (¬ y6 = 0 → ((y6 ≤ 360 → XI mX4_hyperOf 4 [some (vR a0), some (vI y6), some (vI (a2 + 1)), none] [] w h Q) ∧ (¬ y6 ≤ 360 → Q 0 h))))))))))))))))) : XI mX4_hyperOf 4 [some (vR a0), some (vI a1), some (vI a2), none] [] w h Q := by
  refine s_iload_n (pc' := 5) (x := a2) dX4_hyperOf_4 rfl rfl ?_
  refine s_aload_n (pc' := 6) (x := a0) dX4_hyperOf_5 rfl rfl ?_
  obtain ⟨z1, V⟩ := V
  refine s_callV (pc' := 9) (av := []) (a := a0) (sk := [vI a2]) (kc := 5) dX4_hyperOf_6 ml_4_48 okX5_timers oiX5_timers (by decide) (NF := 12) rfl z1 rfl (Nat.le_of_ble_eq_true rfl) (Nat.le_refl 0) (Nat.le_refl 0) rfl (CI.eon (c_X5_timers z1) ?_)
  obtain ⟨z2, z3, V⟩ := V
  obtain ⟨V25, V26⟩ := V
  refine s_icmp_ge (pc' := 12) (tgt := 55) dX4_hyperOf_9 rfl rfl z2 z3 (fun c => ?_) (fun c => ?_)
  · have V := V25 c
    refine s_iload_n (pc' := 56) (x := a1) dX4_hyperOf_55 rfl rfl ?_
    exact s_iret dX4_hyperOf_56 rfl ⟨_, rfl, rfl, V⟩
  · have V := V26 c
    refine s_aload_n (pc' := 13) (x := a0) dX4_hyperOf_12 rfl rfl ?_
    refine s_iload_n (pc' := 14) (x := a2) dX4_hyperOf_13 rfl rfl ?_
    obtain ⟨z4, z5, V⟩ := V
    refine s_callV (pc' := 17) (av := [vI a2]) (a := a0) (sk := []) (kc := 5) dX4_hyperOf_14 ml_4_54 okX5_periodOf oiX5_periodOf (by decide) (NF := 12) rfl z1 rfl (Nat.le_of_ble_eq_true rfl) (Nat.le_refl 0) (Nat.le_refl 0) rfl (CI.eon (c_X5_periodOf z4 z2 z5) ?_)
    obtain ⟨y6, e7⟩ : ∃ q, q = (if 0 ≤ a2 ∧ a2 < h a0 8 then h (a0 + 6) a2 else 0) := ⟨_, rfl⟩
    rw [← e7]
    have V := V y6 e7
    refine s_istore_n (pc' := 18) (ls' := [some (vR a0), some (vI a1), some (vI a2), some (vI y6)]) dX4_hyperOf_17 (by decide) rfl rfl ?_
    refine s_iload_n (pc' := 19) (x := y6) dX4_hyperOf_18 rfl rfl ?_
    obtain ⟨z8, V⟩ := V
    obtain ⟨V23, V24⟩ := V
    refine s_if_le (pc' := 22) (tgt := 49) dX4_hyperOf_19 rfl rfl z8 (fun c => ?_) (fun c => ?_)
    · have V := V23 c
      refine s_iinc (pc' := 52) (ls' := [some (vR a0), some (vI a1), some (vI (a2 + 1)), some (vI y6)]) dX4_hyperOf_49 rfl (by decide) rfl rfl ?_
      refine s_goto (tgt := 4) dX4_hyperOf_52 rfl ?_
      refine s_drop 3 (ls' := [some (vR a0), some (vI a1), some (vI (a2 + 1)), none]) rfl ?_
      exact V
    · have V := V24 c
      refine s_iload_n (pc' := 23) (x := a1) dX4_hyperOf_22 rfl rfl ?_
      obtain ⟨z9, V⟩ := V
      obtain ⟨V21, V22⟩ := V
      refine s_if_ne (pc' := 26) (tgt := 30) dX4_hyperOf_23 rfl rfl z9 (fun c => ?_) (fun c => ?_)
      · have V := V21 c
        refine s_iload_n (pc' := 31) (x := a1) dX4_hyperOf_30 rfl rfl ?_
        refine s_iload_n (pc' := 32) (x := y6) dX4_hyperOf_31 rfl rfl ?_
        refine s_callS (pc' := 35) (av := [vI a1, vI y6]) (sk := []) dX4_hyperOf_32 ml_4_58 okX4_leastShared osX4_leastShared (by decide) rfl (Nat.le_of_ble_eq_true rfl) (Nat.le_refl 0) (Nat.le_refl 0) rfl (CI.on V (fun x11 h10 V => ?_))
        refine s_istore_n (pc' := 36) (ls' := [some (vR a0), some (vI x11), some (vI a2), some (vI y6)]) dX4_hyperOf_35 (by decide) rfl rfl ?_
        refine s_iload_n (pc' := 37) (x := x11) dX4_hyperOf_36 rfl rfl ?_
        obtain ⟨z12, V⟩ := V
        obtain ⟨V15, V16⟩ := V
        refine s_if_eq (pc' := 40) (tgt := 47) dX4_hyperOf_37 rfl rfl z12 (fun c => ?_) (fun c => ?_)
        · have V := V15 c
          refine s_iconst (pc' := 48) dX4_hyperOf_47 rfl ?_
          exact s_iret dX4_hyperOf_48 rfl ⟨_, rfl, rfl, V⟩
        · have V := V16 c
          refine s_iload_n (pc' := 41) (x := x11) dX4_hyperOf_40 rfl rfl ?_
          refine s_sipush (pc' := 44) dX4_hyperOf_41 (by decide) rfl ?_
          obtain ⟨V13, V14⟩ := V
          refine s_icmp_le (pc' := 47) (tgt := 49) dX4_hyperOf_44 rfl rfl z12 (by decide) (fun c => ?_) (fun c => ?_)
          · have V := V13 c
            refine s_iinc (pc' := 52) (ls' := [some (vR a0), some (vI x11), some (vI (a2 + 1)), some (vI y6)]) dX4_hyperOf_49 rfl (by decide) rfl rfl ?_
            refine s_goto (tgt := 4) dX4_hyperOf_52 rfl ?_
            refine s_drop 3 (ls' := [some (vR a0), some (vI x11), some (vI (a2 + 1)), none]) rfl ?_
            exact V
          · have V := V14 c
            refine s_iconst (pc' := 48) dX4_hyperOf_47 rfl ?_
            exact s_iret dX4_hyperOf_48 rfl ⟨_, rfl, rfl, V⟩
      · have V := V22 c
        refine s_iload_n (pc' := 27) (x := y6) dX4_hyperOf_26 rfl rfl ?_
        refine s_goto (tgt := 35) dX4_hyperOf_27 rfl ?_
        refine s_istore_n (pc' := 36) (ls' := [some (vR a0), some (vI y6), some (vI a2), some (vI y6)]) dX4_hyperOf_35 (by decide) rfl rfl ?_
        refine s_iload_n (pc' := 37) (x := y6) dX4_hyperOf_36 rfl rfl ?_
        obtain ⟨V19, V20⟩ := V
        refine s_if_eq (pc' := 40) (tgt := 47) dX4_hyperOf_37 rfl rfl z8 (fun c => ?_) (fun c => ?_)
        · have V := V19 c
          refine s_iconst (pc' := 48) dX4_hyperOf_47 rfl ?_
          exact s_iret dX4_hyperOf_48 rfl ⟨_, rfl, rfl, V⟩
        · have V := V20 c
          refine s_iload_n (pc' := 41) (x := y6) dX4_hyperOf_40 rfl rfl ?_
          refine s_sipush (pc' := 44) dX4_hyperOf_41 (by decide) rfl ?_
          obtain ⟨V17, V18⟩ := V
          refine s_icmp_le (pc' := 47) (tgt := 49) dX4_hyperOf_44 rfl rfl z8 (by decide) (fun c => ?_) (fun c => ?_)
          · have V := V17 c
            refine s_iinc (pc' := 52) (ls' := [some (vR a0), some (vI y6), some (vI (a2 + 1)), some (vI y6)]) dX4_hyperOf_49 rfl (by decide) rfl rfl ?_
            refine s_goto (tgt := 4) dX4_hyperOf_52 rfl ?_
            refine s_drop 3 (ls' := [some (vR a0), some (vI y6), some (vI (a2 + 1)), none]) rfl ?_
            exact V
          · have V := V18 c
            refine s_iconst (pc' := 48) dX4_hyperOf_47 rfl ?_
            exact s_iret dX4_hyperOf_48 rfl ⟨_, rfl, rfl, V⟩
theorem e_X4_callsOf {w : WS} {h : AH} {Q : Int → AH → Prop} {a0 a1 : Int} (X : XI mX4_callsOf 0 [some (vR a0), some (vR a1), none, none, none] [] w h Q) : CI mX4_callsOf [vR a0, vR a1] w h Q := CA.of (M := mX4_callsOf) (by decide) rfl (Nat.le_of_ble_eq_true rfl) X
set_option maxRecDepth 20000 in
theorem r_X4_callsOf_0 {w : WS} {h : AH} {Q : Int → AH → Prop} {a0 a1 : Int} (V : XI mX4_callsOf 4 [some (vR a0), some (vR a1), some (vI 0), some (vI 0), none] [] w h Q) : XI mX4_callsOf 0 [some (vR a0), some (vR a1), none, none, none] [] w h Q := by
  refine s_iconst (pc' := 1) dX4_callsOf_0 rfl ?_
  refine s_istore_n (pc' := 2) (ls' := [some (vR a0), some (vR a1), some (vI 0), none, none]) dX4_callsOf_1 (by decide) rfl rfl ?_
  refine s_iconst (pc' := 3) dX4_callsOf_2 rfl ?_
  refine s_istore_n (pc' := 4) (ls' := [some (vR a0), some (vR a1), some (vI 0), some (vI 0), none]) dX4_callsOf_3 (by decide) rfl rfl ?_
  exact V
set_option maxRecDepth 20000 in
theorem r_X4_callsOf_4 {w : WS} {h : AH} {Q : Int → AH → Prop} {a0 a1 a2 a3 : Int} (V : (wt w a1 = 15 ∧ (inR a3 ∧ inR (h a1 8) ∧ (((h a1 8) ≤ a3 → Q a2 h) ∧ (¬ (h a1 8) ≤ a3 → (shSetup w a1 ∧ (0 ≤ h a1 8 ∧ h a1 8 ≤ 24) ∧ (∀ y6, y6 = (if 0 ≤ a3 ∧ a3 < h a1 8 then h (a1 + 6) a3 else 0) → (inR y6 ∧ ((y6 ≤ 0 → XI mX4_callsOf 4 [some (vR a0), some (vR a1), some (vI a2), some (vI (a3 + 1)), none] [] w h Q) ∧ (¬ y6 ≤ 0 → (wt w a0 = 14 ∧ ((0 ≤ (h a0 2) ∧ (h a0 2) ≤ 2147483647) ∧ (0 < y6 ∧ y6 ≤ 2147483647) ∧ XI mX4_callsOf 4 [some (vR a0), some (vR a1), some (vI (a2 + ((h a0 2) / y6))), some (vI (a3 + 1)), none] [] w h Q)))))))))))) : XI mX4_callsOf 4 [some (vR a0), some (vR a1), some (vI a2), some (vI a3), none] [] w h Q := by
  refine s_iload_n (pc' := 5) (x := a3) dX4_callsOf_4 rfl rfl ?_
  refine s_aload_n (pc' := 6) (x := a1) dX4_callsOf_5 rfl rfl ?_
  obtain ⟨z1, V⟩ := V
  refine s_callV (pc' := 9) (av := []) (a := a1) (sk := [vI a3]) (kc := 5) dX4_callsOf_6 ml_4_48 okX5_timers oiX5_timers (by decide) (NF := 12) rfl z1 rfl (Nat.le_of_ble_eq_true rfl) (Nat.le_refl 0) (Nat.le_refl 0) rfl (CI.eon (c_X5_timers z1) ?_)
  obtain ⟨z2, z3, V⟩ := V
  obtain ⟨V14, V15⟩ := V
  refine s_icmp_ge (pc' := 12) (tgt := 40) dX4_callsOf_9 rfl rfl z2 z3 (fun c => ?_) (fun c => ?_)
  · have V := V14 c
    refine s_iload_n (pc' := 41) (x := a2) dX4_callsOf_40 rfl rfl ?_
    exact s_iret dX4_callsOf_41 rfl ⟨_, rfl, rfl, V⟩
  · have V := V15 c
    refine s_aload_n (pc' := 13) (x := a1) dX4_callsOf_12 rfl rfl ?_
    refine s_iload_n (pc' := 14) (x := a3) dX4_callsOf_13 rfl rfl ?_
    obtain ⟨z4, z5, V⟩ := V
    refine s_callV (pc' := 17) (av := [vI a3]) (a := a1) (sk := []) (kc := 5) dX4_callsOf_14 ml_4_54 okX5_periodOf oiX5_periodOf (by decide) (NF := 12) rfl z1 rfl (Nat.le_of_ble_eq_true rfl) (Nat.le_refl 0) (Nat.le_refl 0) rfl (CI.eon (c_X5_periodOf z4 z2 z5) ?_)
    obtain ⟨y6, e7⟩ : ∃ q, q = (if 0 ≤ a3 ∧ a3 < h a1 8 then h (a1 + 6) a3 else 0) := ⟨_, rfl⟩
    rw [← e7]
    have V := V y6 e7
    refine s_istore (pc' := 19) (ls' := [some (vR a0), some (vR a1), some (vI a2), some (vI a3), some (vI y6)]) dX4_callsOf_17 (by decide) rfl rfl ?_
    refine s_iload (pc' := 21) (x := y6) dX4_callsOf_19 rfl rfl ?_
    obtain ⟨z8, V⟩ := V
    obtain ⟨V12, V13⟩ := V
    refine s_if_le (pc' := 24) (tgt := 34) dX4_callsOf_21 rfl rfl z8 (fun c => ?_) (fun c => ?_)
    · have V := V12 c
      refine s_iinc (pc' := 37) (ls' := [some (vR a0), some (vR a1), some (vI a2), some (vI (a3 + 1)), some (vI y6)]) dX4_callsOf_34 rfl (by decide) rfl rfl ?_
      refine s_goto (tgt := 4) dX4_callsOf_37 rfl ?_
      refine s_drop 4 (ls' := [some (vR a0), some (vR a1), some (vI a2), some (vI (a3 + 1)), none]) rfl ?_
      exact V
    · have V := V13 c
      refine s_iload_n (pc' := 25) (x := a2) dX4_callsOf_24 rfl rfl ?_
      refine s_aload_n (pc' := 26) (x := a0) dX4_callsOf_25 rfl rfl ?_
      obtain ⟨z9, V⟩ := V
      refine s_get (pc' := 29) (v := vI (h a0 2)) (kc := 4) (i := 2) dX4_callsOf_26 clX4 (by decide) fl_4_2 z9 (fun _ => rfl) rfl ?_
      refine s_iload (pc' := 31) (x := y6) dX4_callsOf_29 rfl rfl ?_
      obtain ⟨z10, z11, V⟩ := V
      refine s_idiv (pc' := 32) dX4_callsOf_31 z10 z11 rfl ?_
      refine s_iadd (pc' := 33) dX4_callsOf_32 rfl ?_
      refine s_istore_n (pc' := 34) (ls' := [some (vR a0), some (vR a1), some (vI (a2 + ((h a0 2) / y6))), some (vI a3), some (vI y6)]) dX4_callsOf_33 (by decide) rfl rfl ?_
      refine s_iinc (pc' := 37) (ls' := [some (vR a0), some (vR a1), some (vI (a2 + ((h a0 2) / y6))), some (vI (a3 + 1)), some (vI y6)]) dX4_callsOf_34 rfl (by decide) rfl rfl ?_
      refine s_goto (tgt := 4) dX4_callsOf_37 rfl ?_
      refine s_drop 4 (ls' := [some (vR a0), some (vR a1), some (vI (a2 + ((h a0 2) / y6))), some (vI (a3 + 1)), none]) rfl ?_
      exact V
theorem e_X4_fillSlacks {w : WS} {h : AH} {Q : AH → Prop} {a0 a1 : Int} (X : XV mX4_fillSlacks 0 [some (vR a0), some (vR a1), none, none, none, none, none] [] w h Q) : CV mX4_fillSlacks [vR a0, vR a1] w h Q := CA.of (M := mX4_fillSlacks) (by decide) rfl (Nat.le_of_ble_eq_true rfl) X
set_option maxRecDepth 20000 in
theorem r_X4_fillSlacks_0 {w : WS} {h : AH} {Q : AH → Prop} {a0 a1 : Int} (V : XV mX4_fillSlacks 2 [some (vR a0), some (vR a1), some (vI 0), none, none, none, none] [] w h Q) : XV mX4_fillSlacks 0 [some (vR a0), some (vR a1), none, none, none, none, none] [] w h Q := by
  refine s_iconst (pc' := 1) dX4_fillSlacks_0 rfl ?_
  refine s_istore_n (pc' := 2) (ls' := [some (vR a0), some (vR a1), some (vI 0), none, none, none, none]) dX4_fillSlacks_1 (by decide) rfl rfl ?_
  exact V
set_option maxRecDepth 20000 in
theorem r_X4_fillSlacks_2 {w : WS} {h : AH} {Q : AH → Prop} {a0 a1 a2 : Int} (V : (wt w a0 = 14 ∧ (inR a2 ∧ inR (h a0 2) ∧ (((h a0 2) ≤ a2 → XV mX4_fillSlacks 35 [some (vR a0), some (vR a1), some (vI 0), none, none, none, none] [] w h Q) ∧ (¬ (h a0 2) ≤ a2 → (wt w (wf w a0 0) = 1 ∧ (inR (wl w (wf w a0 0)) ∧ (((wl w (wf w a0 0)) ≤ a2 → XV mX4_fillSlacks 35 [some (vR a0), some (vR a1), some (vI 0), none, none, none, none] [] w h Q) ∧ (¬ (wl w (wf w a0 0)) ≤ a2 → (0 ≤ a2 ∧ a2 < wl w (wf w a0 0) ∧ (∀ h8, h8 = st h (wf w a0 0) a2 1000000 → XV mX4_fillSlacks 2 [some (vR a0), some (vR a1), some (vI (a2 + 1)), none, none, none, none] [] w h8 Q))))))))))) : XV mX4_fillSlacks 2 [some (vR a0), some (vR a1), some (vI a2), none, none, none, none] [] w h Q := by
  refine s_iload_n (pc' := 3) (x := a2) dX4_fillSlacks_2 rfl rfl ?_
  refine s_aload_n (pc' := 4) (x := a0) dX4_fillSlacks_3 rfl rfl ?_
  obtain ⟨z1, V⟩ := V
  refine s_get (pc' := 7) (v := vI (h a0 2)) (kc := 4) (i := 2) dX4_fillSlacks_4 clX4 (by decide) fl_4_2 z1 (fun _ => rfl) rfl ?_
  obtain ⟨z2, z3, V⟩ := V
  obtain ⟨V12, V13⟩ := V
  refine s_icmp_ge (pc' := 10) (tgt := 33) dX4_fillSlacks_7 rfl rfl z2 z3 (fun c => ?_) (fun c => ?_)
  · have V := V12 c
    refine s_iconst (pc' := 34) dX4_fillSlacks_33 rfl ?_
    refine s_istore_n (pc' := 35) (ls' := [some (vR a0), some (vR a1), some (vI 0), none, none, none, none]) dX4_fillSlacks_34 (by decide) rfl rfl ?_
    exact V
  · have V := V13 c
    refine s_iload_n (pc' := 11) (x := a2) dX4_fillSlacks_10 rfl rfl ?_
    refine s_aload_n (pc' := 12) (x := a0) dX4_fillSlacks_11 rfl rfl ?_
    refine s_get (pc' := 15) (v := vR (wf w a0 0)) (kc := 4) (i := 0) dX4_fillSlacks_12 clX4 (by decide) fl_4_0 z1 (fun _ => rfl) rfl ?_
    obtain ⟨z4, V⟩ := V
    refine s_alen1 (pc' := 16) dX4_fillSlacks_15 z4 rfl ?_
    obtain ⟨z5, V⟩ := V
    obtain ⟨V10, V11⟩ := V
    refine s_icmp_ge (pc' := 19) (tgt := 33) dX4_fillSlacks_16 rfl rfl z2 z5 (fun c => ?_) (fun c => ?_)
    · have V := V10 c
      refine s_iconst (pc' := 34) dX4_fillSlacks_33 rfl ?_
      refine s_istore_n (pc' := 35) (ls' := [some (vR a0), some (vR a1), some (vI 0), none, none, none, none]) dX4_fillSlacks_34 (by decide) rfl rfl ?_
      exact V
    · have V := V11 c
      refine s_aload_n (pc' := 20) (x := a0) dX4_fillSlacks_19 rfl rfl ?_
      refine s_get (pc' := 23) (v := vR (wf w a0 0)) (kc := 4) (i := 0) dX4_fillSlacks_20 clX4 (by decide) fl_4_0 z1 (fun _ => rfl) rfl ?_
      refine s_iload_n (pc' := 24) (x := a2) dX4_fillSlacks_23 rfl rfl ?_
      refine s_ldc (pc' := 26) (x := 1000000) dX4_fillSlacks_24 cst_4_62 rfl rfl ?_
      obtain ⟨z6, z7, V⟩ := V
      refine s_iast (pc' := 27) dX4_fillSlacks_26 z4 z6 z7 rfl ?_
      obtain ⟨h8, e9⟩ : ∃ q, q = st h (wf w a0 0) a2 1000000 := ⟨_, rfl⟩
      rw [← e9]
      have V := V h8 e9
      refine s_iinc (pc' := 30) (ls' := [some (vR a0), some (vR a1), some (vI (a2 + 1)), none, none, none, none]) dX4_fillSlacks_27 rfl (by decide) rfl rfl ?_
      refine s_goto (tgt := 2) dX4_fillSlacks_30 rfl ?_
      exact V
set_option maxRecDepth 20000 in
theorem r_X4_fillSlacks_35 {w : WS} {h : AH} {Q : AH → Prop} {a0 a1 a2 : Int} (V : (wt w a1 = 15 ∧ (inR a2 ∧ inR (h a1 8) ∧ (((h a1 8) ≤ a2 → Q h) ∧ (¬ (h a1 8) ≤ a2 → (shSetup w a1 ∧ (0 ≤ h a1 8 ∧ h a1 8 ≤ 24) ∧ (∀ y6, y6 = (if 0 ≤ a2 ∧ a2 < h a1 8 then h (a1 + 6) a2 else 0) → (inR y6 ∧ ((y6 ≤ 0 → XV mX4_fillSlacks 35 [some (vR a0), some (vR a1), some (vI (a2 + 1)), none, none, none, none] [] w h Q) ∧ (¬ y6 ≤ 0 → CI mX5_slackOf [vR a1, vI (if 0 ≤ a2 ∧ a2 < h a1 8 then h (a1 + 5) a2 else -1)] w h (fun x10 h9 => ((0 ≤ h9 a1 8 ∧ h9 a1 8 ≤ 24) ∧ ((0 ≤ (if 0 ≤ a2 ∧ a2 < h9 a1 8 then h9 (a1 + 7) a2 else -1) ∧ (if 0 ≤ a2 ∧ a2 < h9 a1 8 then h9 (a1 + 7) a2 else -1) ≤ 2147483647) ∧ (0 < y6 ∧ y6 ≤ 2147483647) ∧ (∀ y14, y14 = ((if 0 ≤ a2 ∧ a2 < h9 a1 8 then h9 (a1 + 7) a2 else -1) % y6) → (inR y14 ∧ XV mX4_fillSlacks 81 [some (vR a0), some (vR a1), some (vI a2), some (vI y6), some (vI x10), none, some (vI (max y14 0))] [] w h9 Q))))))))))))))) : XV mX4_fillSlacks 35 [some (vR a0), some (vR a1), some (vI a2), none, none, none, none] [] w h Q := by
  refine s_iload_n (pc' := 36) (x := a2) dX4_fillSlacks_35 rfl rfl ?_
  refine s_aload_n (pc' := 37) (x := a1) dX4_fillSlacks_36 rfl rfl ?_
  obtain ⟨z1, V⟩ := V
  refine s_callV (pc' := 40) (av := []) (a := a1) (sk := [vI a2]) (kc := 5) dX4_fillSlacks_37 ml_4_48 okX5_timers oiX5_timers (by decide) (NF := 12) rfl z1 rfl (Nat.le_of_ble_eq_true rfl) (Nat.le_refl 0) (Nat.le_refl 0) rfl (CI.eon (c_X5_timers z1) ?_)
  obtain ⟨z2, z3, V⟩ := V
  obtain ⟨V19, V20⟩ := V
  refine s_icmp_ge (pc' := 43) (tgt := 134) dX4_fillSlacks_40 rfl rfl z2 z3 (fun c => ?_) (fun c => ?_)
  · have V := V19 c
    exact s_vret dX4_fillSlacks_134 rfl ⟨rfl, rfl, V⟩
  · have V := V20 c
    refine s_aload_n (pc' := 44) (x := a1) dX4_fillSlacks_43 rfl rfl ?_
    refine s_iload_n (pc' := 45) (x := a2) dX4_fillSlacks_44 rfl rfl ?_
    obtain ⟨z4, z5, V⟩ := V
    refine s_callV (pc' := 48) (av := [vI a2]) (a := a1) (sk := []) (kc := 5) dX4_fillSlacks_45 ml_4_54 okX5_periodOf oiX5_periodOf (by decide) (NF := 12) rfl z1 rfl (Nat.le_of_ble_eq_true rfl) (Nat.le_refl 0) (Nat.le_refl 0) rfl (CI.eon (c_X5_periodOf z4 z2 z5) ?_)
    obtain ⟨y6, e7⟩ : ∃ q, q = (if 0 ≤ a2 ∧ a2 < h a1 8 then h (a1 + 6) a2 else 0) := ⟨_, rfl⟩
    rw [← e7]
    have V := V y6 e7
    refine s_istore_n (pc' := 49) (ls' := [some (vR a0), some (vR a1), some (vI a2), some (vI y6), none, none, none]) dX4_fillSlacks_48 (by decide) rfl rfl ?_
    refine s_iload_n (pc' := 50) (x := y6) dX4_fillSlacks_49 rfl rfl ?_
    obtain ⟨z8, V⟩ := V
    obtain ⟨V17, V18⟩ := V
    refine s_if_le (pc' := 53) (tgt := 128) dX4_fillSlacks_50 rfl rfl z8 (fun c => ?_) (fun c => ?_)
    · have V := V17 c
      refine s_iinc (pc' := 131) (ls' := [some (vR a0), some (vR a1), some (vI (a2 + 1)), some (vI y6), none, none, none]) dX4_fillSlacks_128 rfl (by decide) rfl rfl ?_
      refine s_goto (tgt := 35) dX4_fillSlacks_131 rfl ?_
      refine s_drop 3 (ls' := [some (vR a0), some (vR a1), some (vI (a2 + 1)), none, none, none, none]) rfl ?_
      exact V
    · have V := V18 c
      refine s_aload_n (pc' := 54) (x := a1) dX4_fillSlacks_53 rfl rfl ?_
      refine s_aload_n (pc' := 55) (x := a1) dX4_fillSlacks_54 rfl rfl ?_
      refine s_iload_n (pc' := 56) (x := a2) dX4_fillSlacks_55 rfl rfl ?_
      refine s_callV (pc' := 59) (av := [vI a2]) (a := a1) (sk := [vR a1]) (kc := 5) dX4_fillSlacks_56 ml_4_63 okX5_kindOfTimer oiX5_kindOfTimer (by decide) (NF := 12) rfl z1 rfl (Nat.le_of_ble_eq_true rfl) (Nat.le_refl 0) (Nat.le_refl 0) rfl (CI.eon (c_X5_kindOfTimer z4 z2 z5) ?_)
      refine s_callV (pc' := 62) (av := [vI (if 0 ≤ a2 ∧ a2 < h a1 8 then h (a1 + 5) a2 else -1)]) (a := a1) (sk := []) (kc := 5) dX4_fillSlacks_59 ml_4_66 okX5_slackOf oiX5_slackOf (by decide) (NF := 12) rfl z1 rfl (Nat.le_of_ble_eq_true rfl) (Nat.le_refl 0) (Nat.le_refl 0) rfl (CI.on V (fun x10 h9 V => ?_))
      refine s_istore (pc' := 64) (ls' := [some (vR a0), some (vR a1), some (vI a2), some (vI y6), some (vI x10), none, none]) dX4_fillSlacks_62 (by decide) rfl rfl ?_
      refine s_aload_n (pc' := 65) (x := a1) dX4_fillSlacks_64 rfl rfl ?_
      refine s_iload_n (pc' := 66) (x := a2) dX4_fillSlacks_65 rfl rfl ?_
      obtain ⟨z11, V⟩ := V
      refine s_callV (pc' := 69) (av := [vI a2]) (a := a1) (sk := []) (kc := 5) dX4_fillSlacks_66 ml_4_69 okX5_tickOf oiX5_tickOf (by decide) (NF := 12) rfl z1 rfl (Nat.le_of_ble_eq_true rfl) (Nat.le_refl 0) (Nat.le_refl 0) rfl (CI.eon (c_X5_tickOf z4 z2 z11) ?_)
      refine s_iload_n (pc' := 70) (x := y6) dX4_fillSlacks_69 rfl rfl ?_
      obtain ⟨z12, z13, V⟩ := V
      refine s_irem (pc' := 71) dX4_fillSlacks_70 z12 z13 rfl ?_
      obtain ⟨y14, e15⟩ : ∃ q, q = ((if 0 ≤ a2 ∧ a2 < h9 a1 8 then h9 (a1 + 7) a2 else -1) % y6) := ⟨_, rfl⟩
      rw [← e15]
      have V := V y14 e15
      refine s_istore (pc' := 73) (ls' := [some (vR a0), some (vR a1), some (vI a2), some (vI y6), some (vI x10), some (vI y14), none]) dX4_fillSlacks_71 (by decide) rfl rfl ?_
      refine s_iload (pc' := 75) (x := y14) dX4_fillSlacks_73 rfl rfl ?_
      refine s_iconst (pc' := 76) dX4_fillSlacks_75 rfl ?_
      obtain ⟨z16, V⟩ := V
      refine s_max (pc' := 79) dX4_fillSlacks_76 ml_4_72 mst_max mini_Math mcode_max (by decide) (Nat.le_of_ble_eq_true rfl) z16 (by decide) rfl ?_
      refine s_istore (pc' := 81) (ls' := [some (vR a0), some (vR a1), some (vI a2), some (vI y6), some (vI x10), some (vI y14), some (vI (max y14 0))]) dX4_fillSlacks_79 (by decide) rfl rfl ?_
      refine s_drop 5 (ls' := [some (vR a0), some (vR a1), some (vI a2), some (vI y6), some (vI x10), none, some (vI (max y14 0))]) rfl ?_
      exact V
set_option maxRecDepth 20000 in
theorem r_X4_fillSlacks_81 {w : WS} {h : AH} {Q : AH → Prop} {a0 a1 a2 a3 a4 a6 : Int} (V : (wt w a0 = 14 ∧ (inR a6 ∧ inR (h a0 2) ∧ (((h a0 2) ≤ a6 → XV mX4_fillSlacks 35 [some (vR a0), some (vR a1), some (vI (a2 + 1)), none, none, none, none] [] w h Q) ∧ (¬ (h a0 2) ≤ a6 → (wt w (wf w a0 0) = 1 ∧ (inR (wl w (wf w a0 0)) ∧ (((wl w (wf w a0 0)) ≤ a6 → XV mX4_fillSlacks 35 [some (vR a0), some (vR a1), some (vI (a2 + 1)), none, none, none, none] [] w h Q) ∧ (¬ (wl w (wf w a0 0)) ≤ a6 → (0 ≤ a6 ∧ a6 < wl w (wf w a0 0) ∧ (inR (h (wf w a0 0) a6) ∧ inR a4 ∧ (∀ h10, h10 = st h (wf w a0 0) a6 (min (h (wf w a0 0) a6) a4) → XV mX4_fillSlacks 81 [some (vR a0), some (vR a1), some (vI a2), some (vI a3), some (vI a4), none, some (vI (a6 + a3))] [] w h10 Q)))))))))))) : XV mX4_fillSlacks 81 [some (vR a0), some (vR a1), some (vI a2), some (vI a3), some (vI a4), none, some (vI a6)] [] w h Q := by
  refine s_iload (pc' := 83) (x := a6) dX4_fillSlacks_81 rfl rfl ?_
  refine s_aload_n (pc' := 84) (x := a0) dX4_fillSlacks_83 rfl rfl ?_
  obtain ⟨z1, V⟩ := V
  refine s_get (pc' := 87) (v := vI (h a0 2)) (kc := 4) (i := 2) dX4_fillSlacks_84 clX4 (by decide) fl_4_2 z1 (fun _ => rfl) rfl ?_
  obtain ⟨z2, z3, V⟩ := V
  obtain ⟨V14, V15⟩ := V
  refine s_icmp_ge (pc' := 90) (tgt := 128) dX4_fillSlacks_87 rfl rfl z2 z3 (fun c => ?_) (fun c => ?_)
  · have V := V14 c
    refine s_iinc (pc' := 131) (ls' := [some (vR a0), some (vR a1), some (vI (a2 + 1)), some (vI a3), some (vI a4), none, some (vI a6)]) dX4_fillSlacks_128 rfl (by decide) rfl rfl ?_
    refine s_goto (tgt := 35) dX4_fillSlacks_131 rfl ?_
    refine s_drop 3 (ls' := [some (vR a0), some (vR a1), some (vI (a2 + 1)), none, some (vI a4), none, some (vI a6)]) rfl ?_
    refine s_drop 4 (ls' := [some (vR a0), some (vR a1), some (vI (a2 + 1)), none, none, none, some (vI a6)]) rfl ?_
    refine s_drop 6 (ls' := [some (vR a0), some (vR a1), some (vI (a2 + 1)), none, none, none, none]) rfl ?_
    exact V
  · have V := V15 c
    refine s_iload (pc' := 92) (x := a6) dX4_fillSlacks_90 rfl rfl ?_
    refine s_aload_n (pc' := 93) (x := a0) dX4_fillSlacks_92 rfl rfl ?_
    refine s_get (pc' := 96) (v := vR (wf w a0 0)) (kc := 4) (i := 0) dX4_fillSlacks_93 clX4 (by decide) fl_4_0 z1 (fun _ => rfl) rfl ?_
    obtain ⟨z4, V⟩ := V
    refine s_alen1 (pc' := 97) dX4_fillSlacks_96 z4 rfl ?_
    obtain ⟨z5, V⟩ := V
    obtain ⟨V12, V13⟩ := V
    refine s_icmp_ge (pc' := 100) (tgt := 128) dX4_fillSlacks_97 rfl rfl z2 z5 (fun c => ?_) (fun c => ?_)
    · have V := V12 c
      refine s_iinc (pc' := 131) (ls' := [some (vR a0), some (vR a1), some (vI (a2 + 1)), some (vI a3), some (vI a4), none, some (vI a6)]) dX4_fillSlacks_128 rfl (by decide) rfl rfl ?_
      refine s_goto (tgt := 35) dX4_fillSlacks_131 rfl ?_
      refine s_drop 3 (ls' := [some (vR a0), some (vR a1), some (vI (a2 + 1)), none, some (vI a4), none, some (vI a6)]) rfl ?_
      refine s_drop 4 (ls' := [some (vR a0), some (vR a1), some (vI (a2 + 1)), none, none, none, some (vI a6)]) rfl ?_
      refine s_drop 6 (ls' := [some (vR a0), some (vR a1), some (vI (a2 + 1)), none, none, none, none]) rfl ?_
      exact V
    · have V := V13 c
      refine s_aload_n (pc' := 101) (x := a0) dX4_fillSlacks_100 rfl rfl ?_
      refine s_get (pc' := 104) (v := vR (wf w a0 0)) (kc := 4) (i := 0) dX4_fillSlacks_101 clX4 (by decide) fl_4_0 z1 (fun _ => rfl) rfl ?_
      refine s_iload (pc' := 106) (x := a6) dX4_fillSlacks_104 rfl rfl ?_
      refine s_aload_n (pc' := 107) (x := a0) dX4_fillSlacks_106 rfl rfl ?_
      refine s_get (pc' := 110) (v := vR (wf w a0 0)) (kc := 4) (i := 0) dX4_fillSlacks_107 clX4 (by decide) fl_4_0 z1 (fun _ => rfl) rfl ?_
      refine s_iload (pc' := 112) (x := a6) dX4_fillSlacks_110 rfl rfl ?_
      obtain ⟨z6, z7, V⟩ := V
      refine s_iald (pc' := 113) dX4_fillSlacks_112 z4 z6 z7 rfl ?_
      refine s_iload (pc' := 115) (x := a4) dX4_fillSlacks_113 rfl rfl ?_
      obtain ⟨z8, z9, V⟩ := V
      refine s_min (pc' := 118) dX4_fillSlacks_115 ml_4_77 mst_min mini_Math mcode_min (by decide) (Nat.le_of_ble_eq_true rfl) z8 z9 rfl ?_
      refine s_iast (pc' := 119) dX4_fillSlacks_118 z4 z6 z7 rfl ?_
      obtain ⟨h10, e11⟩ : ∃ q, q = st h (wf w a0 0) a6 (min (h (wf w a0 0) a6) a4) := ⟨_, rfl⟩
      rw [← e11]
      have V := V h10 e11
      refine s_iload (pc' := 121) (x := a6) dX4_fillSlacks_119 rfl rfl ?_
      refine s_iload_n (pc' := 122) (x := a3) dX4_fillSlacks_121 rfl rfl ?_
      refine s_iadd (pc' := 123) dX4_fillSlacks_122 rfl ?_
      refine s_istore (pc' := 125) (ls' := [some (vR a0), some (vR a1), some (vI a2), some (vI a3), some (vI a4), none, some (vI (a6 + a3))]) dX4_fillSlacks_123 (by decide) rfl rfl ?_
      refine s_goto (tgt := 81) dX4_fillSlacks_125 rfl ?_
      exact V
theorem e_X4_fillReach {w : WS} {h : AH} {Q : AH → Prop} {a0 : Int} (X : XV mX4_fillReach 0 [some (vR a0), none, none, none] [] w h Q) : CV mX4_fillReach [vR a0] w h Q := CA.of (M := mX4_fillReach) (by decide) rfl (Nat.le_of_ble_eq_true rfl) X
set_option maxRecDepth 20000 in
theorem r_X4_fillReach_0 {w : WS} {h : AH} {Q : AH → Prop} {a0 : Int} (V : XV mX4_fillReach 5 [some (vR a0), some (vI 1000000), some (vI 0), none] [] w h Q) : XV mX4_fillReach 0 [some (vR a0), none, none, none] [] w h Q := by
  refine s_ldc (pc' := 2) (x := 1000000) dX4_fillReach_0 cst_4_62 rfl rfl ?_
  refine s_istore_n (pc' := 3) (ls' := [some (vR a0), some (vI 1000000), none, none]) dX4_fillReach_2 (by decide) rfl rfl ?_
  refine s_iconst (pc' := 4) dX4_fillReach_3 rfl ?_
  refine s_istore_n (pc' := 5) (ls' := [some (vR a0), some (vI 1000000), some (vI 0), none]) dX4_fillReach_4 (by decide) rfl rfl ?_
  exact V
set_option maxRecDepth 20000 in
theorem r_X4_fillReach_5 {w : WS} {h : AH} {Q : AH → Prop} {a0 a1 a2 : Int} (V : (inR a2 ∧ ((2 ≤ a2 → Q h) ∧ (¬ 2 ≤ a2 → (wt w a0 = 14 ∧ (wt w (wf w a0 1) = 1 ∧ (inR (h a0 2) ∧ inR (wl w (wf w a0 1)) ∧ (∀ y6, y6 = ((min (h a0 2) (wl w (wf w a0 1))) - 1) → XV mX4_fillReach 25 [some (vR a0), some (vI a1), some (vI a2), some (vI y6)] [] w h Q)))))))) : XV mX4_fillReach 5 [some (vR a0), some (vI a1), some (vI a2), none] [] w h Q := by
  refine s_iload_n (pc' := 6) (x := a2) dX4_fillReach_5 rfl rfl ?_
  refine s_iconst (pc' := 7) dX4_fillReach_6 rfl ?_
  obtain ⟨z1, V⟩ := V
  obtain ⟨V8, V9⟩ := V
  refine s_icmp_ge (pc' := 10) (tgt := 66) dX4_fillReach_7 rfl rfl z1 (by decide) (fun c => ?_) (fun c => ?_)
  · have V := V8 c
    exact s_vret dX4_fillReach_66 rfl ⟨rfl, rfl, V⟩
  · have V := V9 c
    refine s_aload_n (pc' := 11) (x := a0) dX4_fillReach_10 rfl rfl ?_
    obtain ⟨z2, V⟩ := V
    refine s_get (pc' := 14) (v := vI (h a0 2)) (kc := 4) (i := 2) dX4_fillReach_11 clX4 (by decide) fl_4_2 z2 (fun _ => rfl) rfl ?_
    refine s_aload_n (pc' := 15) (x := a0) dX4_fillReach_14 rfl rfl ?_
    refine s_get (pc' := 18) (v := vR (wf w a0 1)) (kc := 4) (i := 1) dX4_fillReach_15 clX4 (by decide) fl_4_1 z2 (fun _ => rfl) rfl ?_
    obtain ⟨z3, V⟩ := V
    refine s_alen1 (pc' := 19) dX4_fillReach_18 z3 rfl ?_
    obtain ⟨z4, z5, V⟩ := V
    refine s_min (pc' := 22) dX4_fillReach_19 ml_4_77 mst_min mini_Math mcode_min (by decide) (Nat.le_of_ble_eq_true rfl) z4 z5 rfl ?_
    refine s_iconst (pc' := 23) dX4_fillReach_22 rfl ?_
    refine s_isub (pc' := 24) dX4_fillReach_23 rfl ?_
    obtain ⟨y6, e7⟩ : ∃ q, q = ((min (h a0 2) (wl w (wf w a0 1))) - 1) := ⟨_, rfl⟩
    rw [← e7]
    have V := V y6 e7
    refine s_istore_n (pc' := 25) (ls' := [some (vR a0), some (vI a1), some (vI a2), some (vI y6)]) dX4_fillReach_24 (by decide) rfl rfl ?_
    exact V
set_option maxRecDepth 20000 in
theorem r_X4_fillReach_25 {w : WS} {h : AH} {Q : AH → Prop} {a0 a1 a2 a3 : Int} (V : (inR a3 ∧ ((a3 < 0 → XV mX4_fillReach 5 [some (vR a0), some (vI a1), some (vI (a2 + 1)), none] [] w h Q) ∧ (¬ a3 < 0 → (wt w a0 = 14 ∧ (wt w (wf w a0 1) = 1 ∧ 0 ≤ a3 ∧ a3 < wl w (wf w a0 1) ∧ (∀ h6, h6 = st h (wf w a0 1) a3 (1 + a1) → (wt w (wf w a0 0) = 1 ∧ a3 < wl w (wf w a0 0) ∧ (inR (h6 (wf w a0 0) a3) ∧ inR (h6 (wf w a0 1) a3) ∧ (∀ y12, y12 = (min (h6 (wf w a0 0) a3) (h6 (wf w a0 1) a3)) → XV mX4_fillReach 25 [some (vR a0), some (vI y12), some (vI a2), some (vI (a3 + (-1)))] [] w h6 Q)))))))))) : XV mX4_fillReach 25 [some (vR a0), some (vI a1), some (vI a2), some (vI a3)] [] w h Q := by
  refine s_iload_n (pc' := 26) (x := a3) dX4_fillReach_25 rfl rfl ?_
  obtain ⟨z1, V⟩ := V
  obtain ⟨V14, V15⟩ := V
  refine s_if_lt (pc' := 29) (tgt := 60) dX4_fillReach_26 rfl rfl z1 (fun c => ?_) (fun c => ?_)
  · have V := V14 c
    refine s_iinc (pc' := 63) (ls' := [some (vR a0), some (vI a1), some (vI (a2 + 1)), some (vI a3)]) dX4_fillReach_60 rfl (by decide) rfl rfl ?_
    refine s_goto (tgt := 5) dX4_fillReach_63 rfl ?_
    refine s_drop 3 (ls' := [some (vR a0), some (vI a1), some (vI (a2 + 1)), none]) rfl ?_
    exact V
  · have V := V15 c
    refine s_aload_n (pc' := 30) (x := a0) dX4_fillReach_29 rfl rfl ?_
    obtain ⟨z2, V⟩ := V
    refine s_get (pc' := 33) (v := vR (wf w a0 1)) (kc := 4) (i := 1) dX4_fillReach_30 clX4 (by decide) fl_4_1 z2 (fun _ => rfl) rfl ?_
    refine s_iload_n (pc' := 34) (x := a3) dX4_fillReach_33 rfl rfl ?_
    refine s_iconst (pc' := 35) dX4_fillReach_34 rfl ?_
    refine s_iload_n (pc' := 36) (x := a1) dX4_fillReach_35 rfl rfl ?_
    refine s_iadd (pc' := 37) dX4_fillReach_36 rfl ?_
    obtain ⟨z3, z4, z5, V⟩ := V
    refine s_iast (pc' := 38) dX4_fillReach_37 z3 z4 z5 rfl ?_
    obtain ⟨h6, e7⟩ : ∃ q, q = st h (wf w a0 1) a3 (1 + a1) := ⟨_, rfl⟩
    rw [← e7]
    have V := V h6 e7
    refine s_aload_n (pc' := 39) (x := a0) dX4_fillReach_38 rfl rfl ?_
    refine s_get (pc' := 42) (v := vR (wf w a0 0)) (kc := 4) (i := 0) dX4_fillReach_39 clX4 (by decide) fl_4_0 z2 (fun _ => rfl) rfl ?_
    refine s_iload_n (pc' := 43) (x := a3) dX4_fillReach_42 rfl rfl ?_
    obtain ⟨z8, z9, V⟩ := V
    refine s_iald (pc' := 44) dX4_fillReach_43 z8 z4 z9 rfl ?_
    refine s_aload_n (pc' := 45) (x := a0) dX4_fillReach_44 rfl rfl ?_
    refine s_get (pc' := 48) (v := vR (wf w a0 1)) (kc := 4) (i := 1) dX4_fillReach_45 clX4 (by decide) fl_4_1 z2 (fun _ => rfl) rfl ?_
    refine s_iload_n (pc' := 49) (x := a3) dX4_fillReach_48 rfl rfl ?_
    refine s_iald (pc' := 50) dX4_fillReach_49 z3 z4 z5 rfl ?_
    obtain ⟨z10, z11, V⟩ := V
    refine s_min (pc' := 53) dX4_fillReach_50 ml_4_77 mst_min mini_Math mcode_min (by decide) (Nat.le_of_ble_eq_true rfl) z10 z11 rfl ?_
    obtain ⟨y12, e13⟩ : ∃ q, q = (min (h6 (wf w a0 0) a3) (h6 (wf w a0 1) a3)) := ⟨_, rfl⟩
    rw [← e13]
    have V := V y12 e13
    refine s_istore_n (pc' := 54) (ls' := [some (vR a0), some (vI y12), some (vI a2), some (vI a3)]) dX4_fillReach_53 (by decide) rfl rfl ?_
    refine s_iinc (pc' := 57) (ls' := [some (vR a0), some (vI y12), some (vI a2), some (vI (a3 + (-1)))]) dX4_fillReach_54 rfl (by decide) rfl rfl ?_
    refine s_goto (tgt := 25) dX4_fillReach_57 rfl ?_
    exact V
theorem e_X4_wakesFrom {w : WS} {h : AH} {Q : Int → AH → Prop} {a0 a1 : Int} (X : XI mX4_wakesFrom 0 [some (vR a0), some (vI a1), none, none, none, none] [] w h Q) : CI mX4_wakesFrom [vR a0, vI a1] w h Q := CA.of (M := mX4_wakesFrom) (by decide) rfl (Nat.le_of_ble_eq_true rfl) X
set_option maxRecDepth 20000 in
theorem r_X4_wakesFrom_0 {w : WS} {h : AH} {Q : Int → AH → Prop} {a0 a1 : Int} (V : XI mX4_wakesFrom 10 [some (vR a0), some (vI a1), some (vI 1), some (vI a1), some (vI 0), some (vI 0)] [] w h Q) : XI mX4_wakesFrom 0 [some (vR a0), some (vI a1), none, none, none, none] [] w h Q := by
  refine s_iconst (pc' := 1) dX4_wakesFrom_0 rfl ?_
  refine s_istore_n (pc' := 2) (ls' := [some (vR a0), some (vI a1), some (vI 1), none, none, none]) dX4_wakesFrom_1 (by decide) rfl rfl ?_
  refine s_iload_n (pc' := 3) (x := a1) dX4_wakesFrom_2 rfl rfl ?_
  refine s_istore_n (pc' := 4) (ls' := [some (vR a0), some (vI a1), some (vI 1), some (vI a1), none, none]) dX4_wakesFrom_3 (by decide) rfl rfl ?_
  refine s_iconst (pc' := 5) dX4_wakesFrom_4 rfl ?_
  refine s_istore (pc' := 7) (ls' := [some (vR a0), some (vI a1), some (vI 1), some (vI a1), some (vI 0), none]) dX4_wakesFrom_5 (by decide) rfl rfl ?_
  refine s_iconst (pc' := 8) dX4_wakesFrom_7 rfl ?_
  refine s_istore (pc' := 10) (ls' := [some (vR a0), some (vI a1), some (vI 1), some (vI a1), some (vI 0), some (vI 0)]) dX4_wakesFrom_8 (by decide) rfl rfl ?_
  exact V
set_option maxRecDepth 20000 in
theorem r_X4_wakesFrom_10 {w : WS} {h : AH} {Q : Int → AH → Prop} {a0 a1 a2 a3 a4 a5 : Int} (V : (wt w a0 = 14 ∧ (inR a5 ∧ inR (h a0 2) ∧ (((h a0 2) ≤ a5 → Q a2 h) ∧ (¬ (h a0 2) ≤ a5 → (inR a3 ∧ ((a3 < 0 → Q a2 h) ∧ (¬ a3 < 0 → (wt w (wf w a0 1) = 1 ∧ (inR (wl w (wf w a0 1)) ∧ (((wl w (wf w a0 1)) ≤ a3 → Q a2 h) ∧ (¬ (wl w (wf w a0 1)) ≤ a3 → (0 ≤ a3 ∧ a3 < wl w (wf w a0 1) ∧ (∀ y9, y9 = (a4 + (h (wf w a0 1) a3)) → (inR y9 ∧ ((y9 < (h a0 2) → ((0 ≤ (a1 + y9) ∧ (a1 + y9) ≤ 2147483647) ∧ (0 < (h a0 2) ∧ (h a0 2) ≤ 2147483647) ∧ XI mX4_wakesFrom 10 [some (vR a0), some (vI a1), some (vI (a2 + 1)), some (vI ((a1 + y9) % (h a0 2))), some (vI y9), some (vI (a5 + 1))] [] w h Q)) ∧ (¬ y9 < (h a0 2) → Q a2 h))))))))))))))))) : XI mX4_wakesFrom 10 [some (vR a0), some (vI a1), some (vI a2), some (vI a3), some (vI a4), some (vI a5)] [] w h Q := by
  refine s_iload (pc' := 12) (x := a5) dX4_wakesFrom_10 rfl rfl ?_
  refine s_aload_n (pc' := 13) (x := a0) dX4_wakesFrom_12 rfl rfl ?_
  obtain ⟨z1, V⟩ := V
  refine s_get (pc' := 16) (v := vI (h a0 2)) (kc := 4) (i := 2) dX4_wakesFrom_13 clX4 (by decide) fl_4_2 z1 (fun _ => rfl) rfl ?_
  obtain ⟨z2, z3, V⟩ := V
  obtain ⟨V20, V21⟩ := V
  refine s_icmp_ge (pc' := 19) (tgt := 74) dX4_wakesFrom_16 rfl rfl z2 z3 (fun c => ?_) (fun c => ?_)
  · have V := V20 c
    refine s_iload_n (pc' := 75) (x := a2) dX4_wakesFrom_74 rfl rfl ?_
    exact s_iret dX4_wakesFrom_75 rfl ⟨_, rfl, rfl, V⟩
  · have V := V21 c
    refine s_iload_n (pc' := 20) (x := a3) dX4_wakesFrom_19 rfl rfl ?_
    obtain ⟨z4, V⟩ := V
    obtain ⟨V18, V19⟩ := V
    refine s_if_lt (pc' := 23) (tgt := 74) dX4_wakesFrom_20 rfl rfl z4 (fun c => ?_) (fun c => ?_)
    · have V := V18 c
      refine s_iload_n (pc' := 75) (x := a2) dX4_wakesFrom_74 rfl rfl ?_
      exact s_iret dX4_wakesFrom_75 rfl ⟨_, rfl, rfl, V⟩
    · have V := V19 c
      refine s_iload_n (pc' := 24) (x := a3) dX4_wakesFrom_23 rfl rfl ?_
      refine s_aload_n (pc' := 25) (x := a0) dX4_wakesFrom_24 rfl rfl ?_
      refine s_get (pc' := 28) (v := vR (wf w a0 1)) (kc := 4) (i := 1) dX4_wakesFrom_25 clX4 (by decide) fl_4_1 z1 (fun _ => rfl) rfl ?_
      obtain ⟨z5, V⟩ := V
      refine s_alen1 (pc' := 29) dX4_wakesFrom_28 z5 rfl ?_
      obtain ⟨z6, V⟩ := V
      obtain ⟨V16, V17⟩ := V
      refine s_icmp_ge (pc' := 32) (tgt := 74) dX4_wakesFrom_29 rfl rfl z4 z6 (fun c => ?_) (fun c => ?_)
      · have V := V16 c
        refine s_iload_n (pc' := 75) (x := a2) dX4_wakesFrom_74 rfl rfl ?_
        exact s_iret dX4_wakesFrom_75 rfl ⟨_, rfl, rfl, V⟩
      · have V := V17 c
        refine s_iload (pc' := 34) (x := a4) dX4_wakesFrom_32 rfl rfl ?_
        refine s_aload_n (pc' := 35) (x := a0) dX4_wakesFrom_34 rfl rfl ?_
        refine s_get (pc' := 38) (v := vR (wf w a0 1)) (kc := 4) (i := 1) dX4_wakesFrom_35 clX4 (by decide) fl_4_1 z1 (fun _ => rfl) rfl ?_
        refine s_iload_n (pc' := 39) (x := a3) dX4_wakesFrom_38 rfl rfl ?_
        obtain ⟨z7, z8, V⟩ := V
        refine s_iald (pc' := 40) dX4_wakesFrom_39 z5 z7 z8 rfl ?_
        refine s_iadd (pc' := 41) dX4_wakesFrom_40 rfl ?_
        obtain ⟨y9, e10⟩ : ∃ q, q = (a4 + (h (wf w a0 1) a3)) := ⟨_, rfl⟩
        rw [← e10]
        have V := V y9 e10
        refine s_istore (pc' := 43) (ls' := [some (vR a0), some (vI a1), some (vI a2), some (vI a3), some (vI y9), some (vI a5)]) dX4_wakesFrom_41 (by decide) rfl rfl ?_
        refine s_iload (pc' := 45) (x := y9) dX4_wakesFrom_43 rfl rfl ?_
        refine s_aload_n (pc' := 46) (x := a0) dX4_wakesFrom_45 rfl rfl ?_
        refine s_get (pc' := 49) (v := vI (h a0 2)) (kc := 4) (i := 2) dX4_wakesFrom_46 clX4 (by decide) fl_4_2 z1 (fun _ => rfl) rfl ?_
        obtain ⟨z11, V⟩ := V
        obtain ⟨V14, V15⟩ := V
        refine s_icmp_lt (pc' := 52) (tgt := 55) dX4_wakesFrom_49 rfl rfl z11 z3 (fun c => ?_) (fun c => ?_)
        · have V := V14 c
          refine s_iinc (pc' := 58) (ls' := [some (vR a0), some (vI a1), some (vI (a2 + 1)), some (vI a3), some (vI y9), some (vI a5)]) dX4_wakesFrom_55 rfl (by decide) rfl rfl ?_
          refine s_iload_n (pc' := 59) (x := a1) dX4_wakesFrom_58 rfl rfl ?_
          refine s_iload (pc' := 61) (x := y9) dX4_wakesFrom_59 rfl rfl ?_
          refine s_iadd (pc' := 62) dX4_wakesFrom_61 rfl ?_
          refine s_aload_n (pc' := 63) (x := a0) dX4_wakesFrom_62 rfl rfl ?_
          refine s_get (pc' := 66) (v := vI (h a0 2)) (kc := 4) (i := 2) dX4_wakesFrom_63 clX4 (by decide) fl_4_2 z1 (fun _ => rfl) rfl ?_
          obtain ⟨z12, z13, V⟩ := V
          refine s_irem (pc' := 67) dX4_wakesFrom_66 z12 z13 rfl ?_
          refine s_istore_n (pc' := 68) (ls' := [some (vR a0), some (vI a1), some (vI (a2 + 1)), some (vI ((a1 + y9) % (h a0 2))), some (vI y9), some (vI a5)]) dX4_wakesFrom_67 (by decide) rfl rfl ?_
          refine s_iinc (pc' := 71) (ls' := [some (vR a0), some (vI a1), some (vI (a2 + 1)), some (vI ((a1 + y9) % (h a0 2))), some (vI y9), some (vI (a5 + 1))]) dX4_wakesFrom_68 rfl (by decide) rfl rfl ?_
          refine s_goto (tgt := 10) dX4_wakesFrom_71 rfl ?_
          exact V
        · have V := V15 c
          refine s_goto (tgt := 74) dX4_wakesFrom_52 rfl ?_
          refine s_iload_n (pc' := 75) (x := a2) dX4_wakesFrom_74 rfl rfl ?_
          exact s_iret dX4_wakesFrom_75 rfl ⟨_, rfl, rfl, V⟩
theorem e_X4_choose {w : WS} {h : AH} {Q : AH → Prop} {a0 : Int} (X : XV mX4_choose 0 [some (vR a0), none, none] [] w h Q) : CV mX4_choose [vR a0] w h Q := CA.of (M := mX4_choose) (by decide) rfl (Nat.le_of_ble_eq_true rfl) X
set_option maxRecDepth 20000 in
theorem r_X4_choose_0 {w : WS} {h : AH} {Q : AH → Prop} {a0 : Int} (V : XV mX4_choose 2 [some (vR a0), some (vI 0), none] [] w h Q) : XV mX4_choose 0 [some (vR a0), none, none] [] w h Q := by
  refine s_iconst (pc' := 1) dX4_choose_0 rfl ?_
  refine s_istore_n (pc' := 2) (ls' := [some (vR a0), some (vI 0), none]) dX4_choose_1 (by decide) rfl rfl ?_
  exact V
set_option maxRecDepth 20000 in
theorem r_X4_choose_2 {w : WS} {h : AH} {Q : AH → Prop} {a0 a1 : Int} (V : (wt w a0 = 14 ∧ (inR a1 ∧ inR (h a0 2) ∧ (((h a0 2) ≤ a1 → Q h) ∧ (¬ (h a0 2) ≤ a1 → (wt w (wf w a0 1) = 1 ∧ 0 < wl w (wf w a0 1) ∧ (inR (h (wf w a0 1) 0) ∧ (((h (wf w a0 1) 0) < a1 → Q h) ∧ (¬ (h (wf w a0 1) 0) < a1 → CI mX4_wakesFrom [vR a0, vI a1] w h (fun x8 h7 => (inR (h7 a0 4) ∧ (((h7 a0 4) = 0 → (∀ h10, h10 = st h7 a0 4 x8 → (∀ h12, h12 = st h10 a0 5 a1 → XV mX4_choose 2 [some (vR a0), some (vI (a1 + 1)), none] [] w h12 Q))) ∧ (¬ (h7 a0 4) = 0 → (inR x8 ∧ (((h7 a0 4) ≤ x8 → XV mX4_choose 2 [some (vR a0), some (vI (a1 + 1)), none] [] w h7 Q) ∧ (¬ (h7 a0 4) ≤ x8 → (∀ h15, h15 = st h7 a0 4 x8 → (∀ h17, h17 = st h15 a0 5 a1 → XV mX4_choose 2 [some (vR a0), some (vI (a1 + 1)), none] [] w h17 Q)))))))))))))))))) : XV mX4_choose 2 [some (vR a0), some (vI a1), none] [] w h Q := by
  refine s_iload_n (pc' := 3) (x := a1) dX4_choose_2 rfl rfl ?_
  refine s_aload_n (pc' := 4) (x := a0) dX4_choose_3 rfl rfl ?_
  obtain ⟨z1, V⟩ := V
  refine s_get (pc' := 7) (v := vI (h a0 2)) (kc := 4) (i := 2) dX4_choose_4 clX4 (by decide) fl_4_2 z1 (fun _ => rfl) rfl ?_
  obtain ⟨z2, z3, V⟩ := V
  obtain ⟨V25, V26⟩ := V
  refine s_icmp_ge (pc' := 10) (tgt := 57) dX4_choose_7 rfl rfl z2 z3 (fun c => ?_) (fun c => ?_)
  · have V := V25 c
    exact s_vret dX4_choose_57 rfl ⟨rfl, rfl, V⟩
  · have V := V26 c
    refine s_iload_n (pc' := 11) (x := a1) dX4_choose_10 rfl rfl ?_
    refine s_aload_n (pc' := 12) (x := a0) dX4_choose_11 rfl rfl ?_
    refine s_get (pc' := 15) (v := vR (wf w a0 1)) (kc := 4) (i := 1) dX4_choose_12 clX4 (by decide) fl_4_1 z1 (fun _ => rfl) rfl ?_
    refine s_iconst (pc' := 16) dX4_choose_15 rfl ?_
    obtain ⟨z4, z5, V⟩ := V
    refine s_iald (pc' := 17) dX4_choose_16 z4 (by decide) z5 rfl ?_
    obtain ⟨z6, V⟩ := V
    obtain ⟨V23, V24⟩ := V
    refine s_icmp_gt (pc' := 20) (tgt := 57) dX4_choose_17 rfl rfl z2 z6 (fun c => ?_) (fun c => ?_)
    · have V := V23 c
      exact s_vret dX4_choose_57 rfl ⟨rfl, rfl, V⟩
    · have V := V24 c
      refine s_aload_n (pc' := 21) (x := a0) dX4_choose_20 rfl rfl ?_
      refine s_iload_n (pc' := 22) (x := a1) dX4_choose_21 rfl rfl ?_
      refine s_callV (pc' := 25) (av := [vI a1]) (a := a0) (sk := []) (kc := 4) dX4_choose_22 ml_4_80 okX4_wakesFrom oiX4_wakesFrom (by decide) (NF := 6) rfl z1 rfl (Nat.le_of_ble_eq_true rfl) (Nat.le_refl 0) (Nat.le_refl 0) rfl (CI.on V (fun x8 h7 V => ?_))
      refine s_istore_n (pc' := 26) (ls' := [some (vR a0), some (vI a1), some (vI x8)]) dX4_choose_25 (by decide) rfl rfl ?_
      refine s_aload_n (pc' := 27) (x := a0) dX4_choose_26 rfl rfl ?_
      refine s_get (pc' := 30) (v := vI (h7 a0 4)) (kc := 4) (i := 4) dX4_choose_27 clX4 (by decide) fl_4_4 z1 (fun _ => rfl) rfl ?_
      obtain ⟨z9, V⟩ := V
      obtain ⟨V21, V22⟩ := V
      refine s_if_eq (pc' := 33) (tgt := 41) dX4_choose_30 rfl rfl z9 (fun c => ?_) (fun c => ?_)
      · have V := V21 c
        refine s_aload_n (pc' := 42) (x := a0) dX4_choose_41 rfl rfl ?_
        refine s_iload_n (pc' := 43) (x := x8) dX4_choose_42 rfl rfl ?_
        refine s_put (pc' := 46) (v := vI x8) (x := x8) (kc := 4) (i := 4) dX4_choose_43 clX4 (by decide) fl_4_4 rfl z1 (fun E => nar_int E _) (fun _ _ => rfl) (j0 := 4) rfl rfl ?_
        obtain ⟨h10, e11⟩ : ∃ q, q = st h7 a0 4 x8 := ⟨_, rfl⟩
        rw [← e11]
        have V := V h10 e11
        refine s_aload_n (pc' := 47) (x := a0) dX4_choose_46 rfl rfl ?_
        refine s_iload_n (pc' := 48) (x := a1) dX4_choose_47 rfl rfl ?_
        refine s_put (pc' := 51) (v := vI a1) (x := a1) (kc := 4) (i := 5) dX4_choose_48 clX4 (by decide) fl_4_5 rfl z1 (fun E => nar_int E _) (fun _ _ => rfl) (j0 := 5) rfl rfl ?_
        obtain ⟨h12, e13⟩ : ∃ q, q = st h10 a0 5 a1 := ⟨_, rfl⟩
        rw [← e13]
        have V := V h12 e13
        refine s_iinc (pc' := 54) (ls' := [some (vR a0), some (vI (a1 + 1)), some (vI x8)]) dX4_choose_51 rfl (by decide) rfl rfl ?_
        refine s_goto (tgt := 2) dX4_choose_54 rfl ?_
        refine s_drop 2 (ls' := [some (vR a0), some (vI (a1 + 1)), none]) rfl ?_
        exact V
      · have V := V22 c
        refine s_iload_n (pc' := 34) (x := x8) dX4_choose_33 rfl rfl ?_
        refine s_aload_n (pc' := 35) (x := a0) dX4_choose_34 rfl rfl ?_
        refine s_get (pc' := 38) (v := vI (h7 a0 4)) (kc := 4) (i := 4) dX4_choose_35 clX4 (by decide) fl_4_4 z1 (fun _ => rfl) rfl ?_
        obtain ⟨z14, V⟩ := V
        obtain ⟨V19, V20⟩ := V
        refine s_icmp_ge (pc' := 41) (tgt := 51) dX4_choose_38 rfl rfl z14 z9 (fun c => ?_) (fun c => ?_)
        · have V := V19 c
          refine s_iinc (pc' := 54) (ls' := [some (vR a0), some (vI (a1 + 1)), some (vI x8)]) dX4_choose_51 rfl (by decide) rfl rfl ?_
          refine s_goto (tgt := 2) dX4_choose_54 rfl ?_
          refine s_drop 2 (ls' := [some (vR a0), some (vI (a1 + 1)), none]) rfl ?_
          exact V
        · have V := V20 c
          refine s_aload_n (pc' := 42) (x := a0) dX4_choose_41 rfl rfl ?_
          refine s_iload_n (pc' := 43) (x := x8) dX4_choose_42 rfl rfl ?_
          refine s_put (pc' := 46) (v := vI x8) (x := x8) (kc := 4) (i := 4) dX4_choose_43 clX4 (by decide) fl_4_4 rfl z1 (fun E => nar_int E _) (fun _ _ => rfl) (j0 := 4) rfl rfl ?_
          obtain ⟨h15, e16⟩ : ∃ q, q = st h7 a0 4 x8 := ⟨_, rfl⟩
          rw [← e16]
          have V := V h15 e16
          refine s_aload_n (pc' := 47) (x := a0) dX4_choose_46 rfl rfl ?_
          refine s_iload_n (pc' := 48) (x := a1) dX4_choose_47 rfl rfl ?_
          refine s_put (pc' := 51) (v := vI a1) (x := a1) (kc := 4) (i := 5) dX4_choose_48 clX4 (by decide) fl_4_5 rfl z1 (fun E => nar_int E _) (fun _ _ => rfl) (j0 := 5) rfl rfl ?_
          obtain ⟨h17, e18⟩ : ∃ q, q = st h15 a0 5 a1 := ⟨_, rfl⟩
          rw [← e18]
          have V := V h17 e18
          refine s_iinc (pc' := 54) (ls' := [some (vR a0), some (vI (a1 + 1)), some (vI x8)]) dX4_choose_51 rfl (by decide) rfl rfl ?_
          refine s_goto (tgt := 2) dX4_choose_54 rfl ?_
          refine s_drop 2 (ls' := [some (vR a0), some (vI (a1 + 1)), none]) rfl ?_
          exact V
theorem e_X4_tickAt {w : WS} {h : AH} {Q : Int → AH → Prop} {a0 a1 : Int} (X : XI mX4_tickAt 0 [some (vR a0), some (vI a1), none, none] [] w h Q) : CI mX4_tickAt [vR a0, vI a1] w h Q := CA.of (M := mX4_tickAt) (by decide) rfl (Nat.le_of_ble_eq_true rfl) X
set_option maxRecDepth 20000 in
theorem r_X4_tickAt_0 {w : WS} {h : AH} {Q : Int → AH → Prop} {a0 a1 : Int} (V : (inR a1 ∧ ((a1 < 0 → Q (-1) h) ∧ (¬ a1 < 0 → (wt w a0 = 14 ∧ (inR (h a0 4) ∧ ((a1 < (h a0 4) → XI mX4_tickAt 21 [some (vR a0), some (vI a1), some (vI (h a0 5)), some (vI 0)] [] w h Q) ∧ (¬ a1 < (h a0 4) → Q (-1) h)))))))) : XI mX4_tickAt 0 [some (vR a0), some (vI a1), none, none] [] w h Q := by
  refine s_iload_n (pc' := 1) (x := a1) dX4_tickAt_0 rfl rfl ?_
  obtain ⟨z1, V⟩ := V
  obtain ⟨V6, V7⟩ := V
  refine s_if_lt (pc' := 4) (tgt := 12) dX4_tickAt_1 rfl rfl z1 (fun c => ?_) (fun c => ?_)
  · have V := V6 c
    refine s_iconst (pc' := 13) dX4_tickAt_12 rfl ?_
    exact s_iret dX4_tickAt_13 rfl ⟨_, rfl, rfl, V⟩
  · have V := V7 c
    refine s_iload_n (pc' := 5) (x := a1) dX4_tickAt_4 rfl rfl ?_
    refine s_aload_n (pc' := 6) (x := a0) dX4_tickAt_5 rfl rfl ?_
    obtain ⟨z2, V⟩ := V
    refine s_get (pc' := 9) (v := vI (h a0 4)) (kc := 4) (i := 4) dX4_tickAt_6 clX4 (by decide) fl_4_4 z2 (fun _ => rfl) rfl ?_
    obtain ⟨z3, V⟩ := V
    obtain ⟨V4, V5⟩ := V
    refine s_icmp_lt (pc' := 12) (tgt := 14) dX4_tickAt_9 rfl rfl z1 z3 (fun c => ?_) (fun c => ?_)
    · have V := V4 c
      refine s_aload_n (pc' := 15) (x := a0) dX4_tickAt_14 rfl rfl ?_
      refine s_get (pc' := 18) (v := vI (h a0 5)) (kc := 4) (i := 5) dX4_tickAt_15 clX4 (by decide) fl_4_5 z2 (fun _ => rfl) rfl ?_
      refine s_istore_n (pc' := 19) (ls' := [some (vR a0), some (vI a1), some (vI (h a0 5)), none]) dX4_tickAt_18 (by decide) rfl rfl ?_
      refine s_iconst (pc' := 20) dX4_tickAt_19 rfl ?_
      refine s_istore_n (pc' := 21) (ls' := [some (vR a0), some (vI a1), some (vI (h a0 5)), some (vI 0)]) dX4_tickAt_20 (by decide) rfl rfl ?_
      exact V
    · have V := V5 c
      refine s_iconst (pc' := 13) dX4_tickAt_12 rfl ?_
      exact s_iret dX4_tickAt_13 rfl ⟨_, rfl, rfl, V⟩
set_option maxRecDepth 20000 in
theorem r_X4_tickAt_21 {w : WS} {h : AH} {Q : Int → AH → Prop} {a0 a1 a2 a3 : Int} (V : (inR a3 ∧ inR a1 ∧ ((a1 ≤ a3 → Q a2 h) ∧ (¬ a1 ≤ a3 → (wt w a0 = 14 ∧ (inR (h a0 2) ∧ (((h a0 2) ≤ 0 → Q a2 h) ∧ (¬ (h a0 2) ≤ 0 → (inR a2 ∧ ((a2 < 0 → Q a2 h) ∧ (¬ a2 < 0 → (wt w (wf w a0 1) = 1 ∧ (inR (wl w (wf w a0 1)) ∧ (((wl w (wf w a0 1)) ≤ a2 → Q a2 h) ∧ (¬ (wl w (wf w a0 1)) ≤ a2 → (0 ≤ a2 ∧ a2 < wl w (wf w a0 1) ∧ ((0 ≤ (a2 + (h (wf w a0 1) a2)) ∧ (a2 + (h (wf w a0 1) a2)) ≤ 2147483647) ∧ (0 < (h a0 2) ∧ (h a0 2) ≤ 2147483647) ∧ (∀ y12, y12 = ((a2 + (h (wf w a0 1) a2)) % (h a0 2)) → XI mX4_tickAt 21 [some (vR a0), some (vI a1), some (vI y12), some (vI (a3 + 1))] [] w h Q)))))))))))))))))) : XI mX4_tickAt 21 [some (vR a0), some (vI a1), some (vI a2), some (vI a3)] [] w h Q := by
  refine s_iload_n (pc' := 22) (x := a3) dX4_tickAt_21 rfl rfl ?_
  refine s_iload_n (pc' := 23) (x := a1) dX4_tickAt_22 rfl rfl ?_
  obtain ⟨z1, z2, V⟩ := V
  obtain ⟨V20, V21⟩ := V
  refine s_icmp_ge (pc' := 26) (tgt := 66) dX4_tickAt_23 rfl rfl z1 z2 (fun c => ?_) (fun c => ?_)
  · have V := V20 c
    refine s_iload_n (pc' := 67) (x := a2) dX4_tickAt_66 rfl rfl ?_
    exact s_iret dX4_tickAt_67 rfl ⟨_, rfl, rfl, V⟩
  · have V := V21 c
    refine s_aload_n (pc' := 27) (x := a0) dX4_tickAt_26 rfl rfl ?_
    obtain ⟨z3, V⟩ := V
    refine s_get (pc' := 30) (v := vI (h a0 2)) (kc := 4) (i := 2) dX4_tickAt_27 clX4 (by decide) fl_4_2 z3 (fun _ => rfl) rfl ?_
    obtain ⟨z4, V⟩ := V
    obtain ⟨V18, V19⟩ := V
    refine s_if_le (pc' := 33) (tgt := 66) dX4_tickAt_30 rfl rfl z4 (fun c => ?_) (fun c => ?_)
    · have V := V18 c
      refine s_iload_n (pc' := 67) (x := a2) dX4_tickAt_66 rfl rfl ?_
      exact s_iret dX4_tickAt_67 rfl ⟨_, rfl, rfl, V⟩
    · have V := V19 c
      refine s_iload_n (pc' := 34) (x := a2) dX4_tickAt_33 rfl rfl ?_
      obtain ⟨z5, V⟩ := V
      obtain ⟨V16, V17⟩ := V
      refine s_if_lt (pc' := 37) (tgt := 66) dX4_tickAt_34 rfl rfl z5 (fun c => ?_) (fun c => ?_)
      · have V := V16 c
        refine s_iload_n (pc' := 67) (x := a2) dX4_tickAt_66 rfl rfl ?_
        exact s_iret dX4_tickAt_67 rfl ⟨_, rfl, rfl, V⟩
      · have V := V17 c
        refine s_iload_n (pc' := 38) (x := a2) dX4_tickAt_37 rfl rfl ?_
        refine s_aload_n (pc' := 39) (x := a0) dX4_tickAt_38 rfl rfl ?_
        refine s_get (pc' := 42) (v := vR (wf w a0 1)) (kc := 4) (i := 1) dX4_tickAt_39 clX4 (by decide) fl_4_1 z3 (fun _ => rfl) rfl ?_
        obtain ⟨z6, V⟩ := V
        refine s_alen1 (pc' := 43) dX4_tickAt_42 z6 rfl ?_
        obtain ⟨z7, V⟩ := V
        obtain ⟨V14, V15⟩ := V
        refine s_icmp_ge (pc' := 46) (tgt := 66) dX4_tickAt_43 rfl rfl z5 z7 (fun c => ?_) (fun c => ?_)
        · have V := V14 c
          refine s_iload_n (pc' := 67) (x := a2) dX4_tickAt_66 rfl rfl ?_
          exact s_iret dX4_tickAt_67 rfl ⟨_, rfl, rfl, V⟩
        · have V := V15 c
          refine s_iload_n (pc' := 47) (x := a2) dX4_tickAt_46 rfl rfl ?_
          refine s_aload_n (pc' := 48) (x := a0) dX4_tickAt_47 rfl rfl ?_
          refine s_get (pc' := 51) (v := vR (wf w a0 1)) (kc := 4) (i := 1) dX4_tickAt_48 clX4 (by decide) fl_4_1 z3 (fun _ => rfl) rfl ?_
          refine s_iload_n (pc' := 52) (x := a2) dX4_tickAt_51 rfl rfl ?_
          obtain ⟨z8, z9, V⟩ := V
          refine s_iald (pc' := 53) dX4_tickAt_52 z6 z8 z9 rfl ?_
          refine s_iadd (pc' := 54) dX4_tickAt_53 rfl ?_
          refine s_aload_n (pc' := 55) (x := a0) dX4_tickAt_54 rfl rfl ?_
          refine s_get (pc' := 58) (v := vI (h a0 2)) (kc := 4) (i := 2) dX4_tickAt_55 clX4 (by decide) fl_4_2 z3 (fun _ => rfl) rfl ?_
          obtain ⟨z10, z11, V⟩ := V
          refine s_irem (pc' := 59) dX4_tickAt_58 z10 z11 rfl ?_
          obtain ⟨y12, e13⟩ : ∃ q, q = ((a2 + (h (wf w a0 1) a2)) % (h a0 2)) := ⟨_, rfl⟩
          rw [← e13]
          have V := V y12 e13
          refine s_istore_n (pc' := 60) (ls' := [some (vR a0), some (vI a1), some (vI y12), some (vI a3)]) dX4_tickAt_59 (by decide) rfl rfl ?_
          refine s_iinc (pc' := 63) (ls' := [some (vR a0), some (vI a1), some (vI y12), some (vI (a3 + 1))]) dX4_tickAt_60 rfl (by decide) rfl rfl ?_
          refine s_goto (tgt := 21) dX4_tickAt_63 rfl ?_
          exact V
theorem e_X4_make {w : WS} {h : AH} {Q : AH → Prop} {a0 a1 : Int} (X : XV mX4_make 0 [some (vR a0), some (vR a1)] [] w h Q) : CV mX4_make [vR a0, vR a1] w h Q := CA.of (M := mX4_make) (by decide) rfl (Nat.le_of_ble_eq_true rfl) X
set_option maxRecDepth 20000 in
theorem r_X4_make_0 {w : WS} {h : AH} {Q : AH → Prop} {a0 a1 : Int} (V : (wt w a0 = 14 ∧ (∀ h2, h2 = st h a0 4 0 → CI mX4_hyperOf [vR a1] w h2 (fun x5 h4 => (∀ h6, h6 = st h4 a0 2 x5 → CI mX4_callsOf [vR a0, vR a1] w h6 (fun x9 h8 => (∀ h10, h10 = st h8 a0 3 x9 → (inR (h10 a0 3) ∧ (((h10 a0 3) = 0 → Q h10) ∧ (¬ (h10 a0 3) = 0 → (((h10 a0 3) ≤ 400 → CV mX4_fillSlacks [vR a0, vR a1] w h10 (fun h13 => CV mX4_fillReach [vR a0] w h13 (fun h14 => CV mX4_choose [vR a0] w h14 (fun h15 => Q h15)))) ∧ (¬ (h10 a0 3) ≤ 400 → Q h10)))))))))))) : XV mX4_make 0 [some (vR a0), some (vR a1)] [] w h Q := by
  refine s_aload_n (pc' := 1) (x := a0) dX4_make_0 rfl rfl ?_
  refine s_iconst (pc' := 2) dX4_make_1 rfl ?_
  obtain ⟨z1, V⟩ := V
  refine s_put (pc' := 5) (v := vI 0) (x := 0) (kc := 4) (i := 4) dX4_make_2 clX4 (by decide) fl_4_4 rfl z1 (fun E => nar_int E _) (fun _ _ => rfl) (j0 := 4) rfl rfl ?_
  obtain ⟨h2, e3⟩ : ∃ q, q = st h a0 4 0 := ⟨_, rfl⟩
  rw [← e3]
  have V := V h2 e3
  refine s_aload_n (pc' := 6) (x := a0) dX4_make_5 rfl rfl ?_
  refine s_aload_n (pc' := 7) (x := a1) dX4_make_6 rfl rfl ?_
  refine s_callS (pc' := 10) (av := [vR a1]) (sk := [vR a0]) dX4_make_7 ml_4_31 okX4_hyperOf osX4_hyperOf (by decide) rfl (Nat.le_of_ble_eq_true rfl) (Nat.le_refl 0) (Nat.le_refl 0) rfl (CI.on V (fun x5 h4 V => ?_))
  refine s_put (pc' := 13) (v := vI x5) (x := x5) (kc := 4) (i := 2) dX4_make_10 clX4 (by decide) fl_4_2 rfl z1 (fun E => nar_int E _) (fun _ _ => rfl) (j0 := 2) rfl rfl ?_
  obtain ⟨h6, e7⟩ : ∃ q, q = st h4 a0 2 x5 := ⟨_, rfl⟩
  rw [← e7]
  have V := V h6 e7
  refine s_aload_n (pc' := 14) (x := a0) dX4_make_13 rfl rfl ?_
  refine s_aload_n (pc' := 15) (x := a0) dX4_make_14 rfl rfl ?_
  refine s_aload_n (pc' := 16) (x := a1) dX4_make_15 rfl rfl ?_
  refine s_callV (pc' := 19) (av := [vR a1]) (a := a0) (sk := [vR a0]) (kc := 4) dX4_make_16 ml_4_35 okX4_callsOf oiX4_callsOf (by decide) (NF := 6) rfl z1 rfl (Nat.le_of_ble_eq_true rfl) (Nat.le_refl 0) (Nat.le_refl 0) rfl (CI.on V (fun x9 h8 V => ?_))
  refine s_put (pc' := 22) (v := vI x9) (x := x9) (kc := 4) (i := 3) dX4_make_19 clX4 (by decide) fl_4_3 rfl z1 (fun E => nar_int E _) (fun _ _ => rfl) (j0 := 3) rfl rfl ?_
  obtain ⟨h10, e11⟩ : ∃ q, q = st h8 a0 3 x9 := ⟨_, rfl⟩
  rw [← e11]
  have V := V h10 e11
  refine s_aload_n (pc' := 23) (x := a0) dX4_make_22 rfl rfl ?_
  refine s_get (pc' := 26) (v := vI (h10 a0 3)) (kc := 4) (i := 3) dX4_make_23 clX4 (by decide) fl_4_3 z1 (fun _ => rfl) rfl ?_
  obtain ⟨z12, V⟩ := V
  obtain ⟨V18, V19⟩ := V
  refine s_if_eq (pc' := 29) (tgt := 39) dX4_make_26 rfl rfl z12 (fun c => ?_) (fun c => ?_)
  · have V := V18 c
    exact s_vret dX4_make_39 rfl ⟨rfl, rfl, V⟩
  · have V := V19 c
    refine s_aload_n (pc' := 30) (x := a0) dX4_make_29 rfl rfl ?_
    refine s_get (pc' := 33) (v := vI (h10 a0 3)) (kc := 4) (i := 3) dX4_make_30 clX4 (by decide) fl_4_3 z1 (fun _ => rfl) rfl ?_
    refine s_sipush (pc' := 36) dX4_make_33 (by decide) rfl ?_
    obtain ⟨V16, V17⟩ := V
    refine s_icmp_le (pc' := 39) (tgt := 40) dX4_make_36 rfl rfl z12 (by decide) (fun c => ?_) (fun c => ?_)
    · have V := V16 c
      refine s_aload_n (pc' := 41) (x := a0) dX4_make_40 rfl rfl ?_
      refine s_aload_n (pc' := 42) (x := a1) dX4_make_41 rfl rfl ?_
      refine s_callV (pc' := 45) (av := [vR a1]) (a := a0) (sk := []) (kc := 4) dX4_make_42 ml_4_38 okX4_fillSlacks oiX4_fillSlacks (by decide) (NF := 6) rfl z1 rfl (Nat.le_of_ble_eq_true rfl) (Nat.le_refl 0) (Nat.le_refl 0) rfl (CV.on V (fun h13 V => ?_))
      refine s_aload_n (pc' := 46) (x := a0) dX4_make_45 rfl rfl ?_
      refine s_callV (pc' := 49) (av := []) (a := a0) (sk := []) (kc := 4) dX4_make_46 ml_4_42 okX4_fillReach oiX4_fillReach (by decide) (NF := 6) rfl z1 rfl (Nat.le_of_ble_eq_true rfl) (Nat.le_refl 0) (Nat.le_refl 0) rfl (CV.on V (fun h14 V => ?_))
      refine s_aload_n (pc' := 50) (x := a0) dX4_make_49 rfl rfl ?_
      refine s_callV (pc' := 53) (av := []) (a := a0) (sk := []) (kc := 4) dX4_make_50 ml_4_45 okX4_choose oiX4_choose (by decide) (NF := 6) rfl z1 rfl (Nat.le_of_ble_eq_true rfl) (Nat.le_refl 0) (Nat.le_refl 0) rfl (CV.on V (fun h15 V => ?_))
      exact s_vret dX4_make_53 rfl ⟨rfl, rfl, V⟩
    · have V := V17 c
      exact s_vret dX4_make_39 rfl ⟨rfl, rfl, V⟩
