/-! WakeSaver$Setup: reads -/
theorem e_X5_hasKind {w : WS} {h : AH} {Q : Int → AH → Prop} {a0 a1 : Int} (X : XI mX5_hasKind 0 [some (vR a0), some (vI a1)] [] w h Q) : CI mX5_hasKind [vR a0, vI a1] w h Q := CA.of (M := mX5_hasKind) (by decide) rfl (Nat.le_of_ble_eq_true rfl) X
set_option maxRecDepth 20000 in
theorem r_X5_hasKind_0 {w : WS} {h : AH} {Q : Int → AH → Prop} {a0 a1 : Int} (V : (inR a1 ∧ ((a1 < 0 → Q 0 h) ∧ (¬ a1 < 0 → (wt w a0 = 15 ∧ (inR (h a0 4) ∧ (((h a0 4) ≤ a1 → Q 0 h) ∧ (¬ (h a0 4) ≤ a1 → Q 1 h)))))))) : XI mX5_hasKind 0 [some (vR a0), some (vI a1)] [] w h Q := by
  refine s_iload_n (pc' := 1) (x := a1) dX5_hasKind_0 rfl rfl ?_
  obtain ⟨z1, V⟩ := V
  obtain ⟨V6, V7⟩ := V
  refine s_if_lt (pc' := 4) (tgt := 16) dX5_hasKind_1 rfl rfl z1 (fun c => ?_) (fun c => ?_)
  · have V := V6 c
    refine s_iconst (pc' := 17) dX5_hasKind_16 rfl ?_
    exact s_zret dX5_hasKind_17 rfl (by decide) ⟨_, rfl, rfl, V⟩
  · have V := V7 c
    refine s_iload_n (pc' := 5) (x := a1) dX5_hasKind_4 rfl rfl ?_
    refine s_aload_n (pc' := 6) (x := a0) dX5_hasKind_5 rfl rfl ?_
    obtain ⟨z2, V⟩ := V
    refine s_get (pc' := 9) (v := vI (h a0 4)) (kc := 5) (i := 4) dX5_hasKind_6 clX5 (by decide) fl_5_4 z2 (fun _ => rfl) rfl ?_
    obtain ⟨z3, V⟩ := V
    obtain ⟨V4, V5⟩ := V
    refine s_icmp_ge (pc' := 12) (tgt := 16) dX5_hasKind_9 rfl rfl z1 z3 (fun c => ?_) (fun c => ?_)
    · have V := V4 c
      refine s_iconst (pc' := 17) dX5_hasKind_16 rfl ?_
      exact s_zret dX5_hasKind_17 rfl (by decide) ⟨_, rfl, rfl, V⟩
    · have V := V5 c
      refine s_iconst (pc' := 13) dX5_hasKind_12 rfl ?_
      refine s_goto (tgt := 17) dX5_hasKind_13 rfl ?_
      exact s_zret dX5_hasKind_17 rfl (by decide) ⟨_, rfl, rfl, V⟩
theorem e_X5_slackGiver {w : WS} {h : AH} {Q : Int → AH → Prop} {a0 a1 : Int} (X : XI mX5_slackGiver 0 [some (vR a0), some (vI a1), none, none] [] w h Q) : CI mX5_slackGiver [vR a0, vI a1] w h Q := CA.of (M := mX5_slackGiver) (by decide) rfl (Nat.le_of_ble_eq_true rfl) X
set_option maxRecDepth 20000 in
theorem r_X5_slackGiver_0 {w : WS} {h : AH} {Q : Int → AH → Prop} {a0 a1 : Int} (V : XI mX5_slackGiver 4 [some (vR a0), none, some (vI a1), some (vI 0)] [] w h Q) : XI mX5_slackGiver 0 [some (vR a0), some (vI a1), none, none] [] w h Q := by
  refine s_iload_n (pc' := 1) (x := a1) dX5_slackGiver_0 rfl rfl ?_
  refine s_istore_n (pc' := 2) (ls' := [some (vR a0), some (vI a1), some (vI a1), none]) dX5_slackGiver_1 (by decide) rfl rfl ?_
  refine s_iconst (pc' := 3) dX5_slackGiver_2 rfl ?_
  refine s_istore_n (pc' := 4) (ls' := [some (vR a0), some (vI a1), some (vI a1), some (vI 0)]) dX5_slackGiver_3 (by decide) rfl rfl ?_
  refine s_drop 1 (ls' := [some (vR a0), none, some (vI a1), some (vI 0)]) rfl ?_
  exact V
set_option maxRecDepth 20000 in
theorem r_X5_slackGiver_4 {w : WS} {h : AH} {Q : Int → AH → Prop} {a0 a2 a3 : Int} (V : (inR a3 ∧ ((8 ≤ a3 → Q (-1) h) ∧ (¬ 8 ≤ a3 → (wt w a0 = 15 ∧ CI mX5_hasKind [vR a0, vI a2] w h (fun x4 h3 => (inR x4 ∧ ((x4 = 0 → Q (-1) h3) ∧ (¬ x4 = 0 → (wt w (wf w a0 2) = 1 ∧ 0 ≤ a2 ∧ a2 < wl w (wf w a0 2) ∧ (inR (h3 (wf w a0 2) a2) ∧ (((h3 (wf w a0 2) a2) = (-1) → (wt w (wf w a0 1) = 1 ∧ a2 < wl w (wf w a0 1) ∧ XI mX5_slackGiver 4 [some (vR a0), none, some (vI (h3 (wf w a0 1) a2)), some (vI (a3 + 1))] [] w h3 Q)) ∧ (¬ (h3 (wf w a0 2) a2) = (-1) → Q a2 h3))))))))))))) : XI mX5_slackGiver 4 [some (vR a0), none, some (vI a2), some (vI a3)] [] w h Q := by
  refine s_iload_n (pc' := 5) (x := a3) dX5_slackGiver_4 rfl rfl ?_
  refine s_bipush (pc' := 7) dX5_slackGiver_5 (by decide) rfl ?_
  obtain ⟨z1, V⟩ := V
  obtain ⟨V16, V17⟩ := V
  refine s_icmp_ge (pc' := 10) (tgt := 43) dX5_slackGiver_7 rfl rfl z1 (by decide) (fun c => ?_) (fun c => ?_)
  · have V := V16 c
    refine s_iconst (pc' := 44) dX5_slackGiver_43 rfl ?_
    exact s_iret dX5_slackGiver_44 rfl ⟨_, rfl, rfl, V⟩
  · have V := V17 c
    refine s_aload_n (pc' := 11) (x := a0) dX5_slackGiver_10 rfl rfl ?_
    refine s_iload_n (pc' := 12) (x := a2) dX5_slackGiver_11 rfl rfl ?_
    obtain ⟨z2, V⟩ := V
    refine s_callV (pc' := 15) (av := [vI a2]) (a := a0) (sk := []) (kc := 5) dX5_slackGiver_12 ml_5_52 okX5_hasKind oiX5_hasKind (by decide) (NF := 12) rfl z2 rfl (Nat.le_of_ble_eq_true rfl) (Nat.le_refl 0) (Nat.le_refl 0) rfl (CI.on V (fun x4 h3 V => ?_))
    obtain ⟨z5, V⟩ := V
    obtain ⟨V14, V15⟩ := V
    refine s_if_eq (pc' := 18) (tgt := 43) dX5_slackGiver_15 rfl rfl z5 (fun c => ?_) (fun c => ?_)
    · have V := V14 c
      refine s_iconst (pc' := 44) dX5_slackGiver_43 rfl ?_
      exact s_iret dX5_slackGiver_44 rfl ⟨_, rfl, rfl, V⟩
    · have V := V15 c
      refine s_aload_n (pc' := 19) (x := a0) dX5_slackGiver_18 rfl rfl ?_
      refine s_get (pc' := 22) (v := vR (wf w a0 2)) (kc := 5) (i := 2) dX5_slackGiver_19 clX5 (by decide) fl_5_2 z2 (fun _ => rfl) rfl ?_
      refine s_iload_n (pc' := 23) (x := a2) dX5_slackGiver_22 rfl rfl ?_
      obtain ⟨z6, z7, z8, V⟩ := V
      refine s_iald (pc' := 24) dX5_slackGiver_23 z6 z7 z8 rfl ?_
      refine s_iconst (pc' := 25) dX5_slackGiver_24 rfl ?_
      obtain ⟨z9, V⟩ := V
      obtain ⟨V12, V13⟩ := V
      refine s_icmp_eq (pc' := 28) (tgt := 30) dX5_slackGiver_25 rfl rfl z9 (by decide) (fun c => ?_) (fun c => ?_)
      · have V := V12 c
        refine s_aload_n (pc' := 31) (x := a0) dX5_slackGiver_30 rfl rfl ?_
        refine s_get (pc' := 34) (v := vR (wf w a0 1)) (kc := 5) (i := 1) dX5_slackGiver_31 clX5 (by decide) fl_5_1 z2 (fun _ => rfl) rfl ?_
        refine s_iload_n (pc' := 35) (x := a2) dX5_slackGiver_34 rfl rfl ?_
        obtain ⟨z10, z11, V⟩ := V
        refine s_iald (pc' := 36) dX5_slackGiver_35 z10 z7 z11 rfl ?_
        refine s_istore_n (pc' := 37) (ls' := [some (vR a0), none, some (vI (h3 (wf w a0 1) a2)), some (vI a3)]) dX5_slackGiver_36 (by decide) rfl rfl ?_
        refine s_iinc (pc' := 40) (ls' := [some (vR a0), none, some (vI (h3 (wf w a0 1) a2)), some (vI (a3 + 1))]) dX5_slackGiver_37 rfl (by decide) rfl rfl ?_
        refine s_goto (tgt := 4) dX5_slackGiver_40 rfl ?_
        exact V
      · have V := V13 c
        refine s_iload_n (pc' := 29) (x := a2) dX5_slackGiver_28 rfl rfl ?_
        exact s_iret dX5_slackGiver_29 rfl ⟨_, rfl, rfl, V⟩
