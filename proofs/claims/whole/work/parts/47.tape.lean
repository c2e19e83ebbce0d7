/-! ===== WakeSaver$Tape ===== -/
theorem e_X6_size {w : WS} {h : AH} {Q : Int → AH → Prop} {a0 : Int} (X : XI mX6_size 0 [some (vR a0)] [] w h Q) : CI mX6_size [vR a0] w h Q := CA.of (M := mX6_size) (by decide) rfl (Nat.le_of_ble_eq_true rfl) X
set_option maxRecDepth 20000 in
theorem r_X6_size_0 {w : WS} {h : AH} {Q : Int → AH → Prop} {a0 : Int} (V : (wt w a0 = 16 ∧ Q (h a0 1) h)) : XI mX6_size 0 [some (vR a0)] [] w h Q := by
  refine s_aload_n (pc' := 1) (x := a0) dX6_size_0 rfl rfl ?_
  obtain ⟨z1, V⟩ := V
  refine s_get (pc' := 4) (v := vI (h a0 1)) (kc := 6) (i := 1) dX6_size_1 clX6 (by decide) fl_6_1 z1 (fun _ => rfl) rfl ?_
  exact s_iret dX6_size_4 rfl ⟨_, rfl, rfl, V⟩
theorem e_X6_type {w : WS} {h : AH} {Q : Int → AH → Prop} {a0 : Int} (X : XI mX6_type 0 [some (vR a0)] [] w h Q) : CI mX6_type [vR a0] w h Q := CA.of (M := mX6_type) (by decide) rfl (Nat.le_of_ble_eq_true rfl) X
set_option maxRecDepth 20000 in
theorem r_X6_type_0 {w : WS} {h : AH} {Q : Int → AH → Prop} {a0 : Int} (V : (wt w a0 = 16 ∧ Q (h a0 4) h)) : XI mX6_type 0 [some (vR a0)] [] w h Q := by
  refine s_aload_n (pc' := 1) (x := a0) dX6_type_0 rfl rfl ?_
  obtain ⟨z1, V⟩ := V
  refine s_get (pc' := 4) (v := vI (h a0 4)) (kc := 6) (i := 4) dX6_type_1 clX6 (by decide) fl_6_4 z1 (fun _ => rfl) rfl ?_
  exact s_iret dX6_type_4 rfl ⟨_, rfl, rfl, V⟩
theorem e_X6_value {w : WS} {h : AH} {Q : Int → AH → Prop} {a0 : Int} (X : XI mX6_value 0 [some (vR a0)] [] w h Q) : CI mX6_value [vR a0] w h Q := CA.of (M := mX6_value) (by decide) rfl (Nat.le_of_ble_eq_true rfl) X
set_option maxRecDepth 20000 in
theorem r_X6_value_0 {w : WS} {h : AH} {Q : Int → AH → Prop} {a0 : Int} (V : (wt w a0 = 16 ∧ Q (h a0 5) h)) : XI mX6_value 0 [some (vR a0)] [] w h Q := by
  refine s_aload_n (pc' := 1) (x := a0) dX6_value_0 rfl rfl ?_
  obtain ⟨z1, V⟩ := V
  refine s_get (pc' := 4) (v := vI (h a0 5)) (kc := 6) (i := 5) dX6_value_1 clX6 (by decide) fl_6_5 z1 (fun _ => rfl) rfl ?_
  exact s_iret dX6_value_4 rfl ⟨_, rfl, rfl, V⟩
theorem e_X6_start {w : WS} {h : AH} {Q : Int → AH → Prop} {a0 : Int} (X : XI mX6_start 0 [some (vR a0)] [] w h Q) : CI mX6_start [vR a0] w h Q := CA.of (M := mX6_start) (by decide) rfl (Nat.le_of_ble_eq_true rfl) X
set_option maxRecDepth 20000 in
theorem r_X6_start_0 {w : WS} {h : AH} {Q : Int → AH → Prop} {a0 : Int} (V : (wt w a0 = 16 ∧ Q (h a0 2) h)) : XI mX6_start 0 [some (vR a0)] [] w h Q := by
  refine s_aload_n (pc' := 1) (x := a0) dX6_start_0 rfl rfl ?_
  obtain ⟨z1, V⟩ := V
  refine s_get (pc' := 4) (v := vI (h a0 2)) (kc := 6) (i := 2) dX6_start_1 clX6 (by decide) fl_6_2 z1 (fun _ => rfl) rfl ?_
  exact s_iret dX6_start_4 rfl ⟨_, rfl, rfl, V⟩
theorem e_X6_reads {w : WS} {h : AH} {Q : Int → AH → Prop} {a0 a1 : Int} (X : XI mX6_reads 0 [some (vR a0), some (vI a1)] [] w h Q) : CI mX6_reads [vR a0, vI a1] w h Q := CA.of (M := mX6_reads) (by decide) rfl (Nat.le_of_ble_eq_true rfl) X
set_option maxRecDepth 20000 in
theorem r_X6_reads_0 {w : WS} {h : AH} {Q : Int → AH → Prop} {a0 a1 : Int} (V : (wt w a0 = 16 ∧ (inR (h a0 4) ∧ ((¬ (h a0 4) = 3 → Q 0 h) ∧ ((h a0 4) = 3 → (inR (h a0 5) ∧ inR a1 ∧ ((¬ (h a0 5) = a1 → Q 0 h) ∧ ((h a0 5) = a1 → Q 1 h)))))))) : XI mX6_reads 0 [some (vR a0), some (vI a1)] [] w h Q := by
  refine s_aload_n (pc' := 1) (x := a0) dX6_reads_0 rfl rfl ?_
  obtain ⟨z1, V⟩ := V
  refine s_get (pc' := 4) (v := vI (h a0 4)) (kc := 6) (i := 4) dX6_reads_1 clX6 (by decide) fl_6_4 z1 (fun _ => rfl) rfl ?_
  refine s_iconst (pc' := 5) dX6_reads_4 rfl ?_
  obtain ⟨z2, V⟩ := V
  obtain ⟨V7, V8⟩ := V
  refine s_icmp_ne (pc' := 8) (tgt := 20) dX6_reads_5 rfl rfl z2 (by decide) (fun c => ?_) (fun c => ?_)
  · have V := V7 c
    refine s_iconst (pc' := 21) dX6_reads_20 rfl ?_
    exact s_zret dX6_reads_21 rfl (by decide) ⟨_, rfl, rfl, V⟩
  · have V := V8 c
    refine s_aload_n (pc' := 9) (x := a0) dX6_reads_8 rfl rfl ?_
    refine s_get (pc' := 12) (v := vI (h a0 5)) (kc := 6) (i := 5) dX6_reads_9 clX6 (by decide) fl_6_5 z1 (fun _ => rfl) rfl ?_
    refine s_iload_n (pc' := 13) (x := a1) dX6_reads_12 rfl rfl ?_
    obtain ⟨z3, z4, V⟩ := V
    obtain ⟨V5, V6⟩ := V
    refine s_icmp_ne (pc' := 16) (tgt := 20) dX6_reads_13 rfl rfl z3 z4 (fun c => ?_) (fun c => ?_)
    · have V := V5 c
      refine s_iconst (pc' := 21) dX6_reads_20 rfl ?_
      exact s_zret dX6_reads_21 rfl (by decide) ⟨_, rfl, rfl, V⟩
    · have V := V6 c
      refine s_iconst (pc' := 17) dX6_reads_16 rfl ?_
      refine s_goto (tgt := 21) dX6_reads_17 rfl ?_
      exact s_zret dX6_reads_21 rfl (by decide) ⟨_, rfl, rfl, V⟩
theorem e_X6_sortAt {w : WS} {h : AH} {Q : Int → AH → Prop} {a0 a1 : Int} (X : XI mX6_sortAt 0 [some (vR a0), some (vI a1), none] [] w h Q) : CI mX6_sortAt [vR a0, vI a1] w h Q := CA.of (M := mX6_sortAt) (by decide) rfl (Nat.le_of_ble_eq_true rfl) X
set_option maxRecDepth 20000 in
theorem r_X6_sortAt_0 {w : WS} {h : AH} {Q : Int → AH → Prop} {a0 a1 : Int} (V : (inR a1 ∧ ((a1 < 0 → Q 0 h) ∧ (¬ a1 < 0 → (wt w a0 = 16 ∧ (inR (h a0 1) ∧ (((h a0 1) ≤ a1 → Q 0 h) ∧ (¬ (h a0 1) ≤ a1 → (wt w (wf w a0 0) = 2 ∧ (inR (wl w (wf w a0 0)) ∧ ((a1 < (wl w (wf w a0 0)) → (0 ≤ a1 ∧ a1 < wl w (wf w a0 0) ∧ (inR (h (wf w a0 0) a1) ∧ (((h (wf w a0 0) a1) < 97 → (((h (wf w a0 0) a1) < 48 → ((¬ (h (wf w a0 0) a1) = 59 → (((h (wf w a0 0) a1) = 32 → Q 2 h) ∧ (¬ (h (wf w a0 0) a1) = 32 → ((¬ (h (wf w a0 0) a1) = 10 → Q 1 h) ∧ ((h (wf w a0 0) a1) = 10 → Q 2 h))))) ∧ ((h (wf w a0 0) a1) = 59 → Q 5 h))) ∧ (¬ (h (wf w a0 0) a1) < 48 → ((57 < (h (wf w a0 0) a1) → ((¬ (h (wf w a0 0) a1) = 59 → (((h (wf w a0 0) a1) = 32 → Q 2 h) ∧ (¬ (h (wf w a0 0) a1) = 32 → ((¬ (h (wf w a0 0) a1) = 10 → Q 1 h) ∧ ((h (wf w a0 0) a1) = 10 → Q 2 h))))) ∧ ((h (wf w a0 0) a1) = 59 → Q 5 h))) ∧ (¬ 57 < (h (wf w a0 0) a1) → Q 4 h))))) ∧ (¬ (h (wf w a0 0) a1) < 97 → ((122 < (h (wf w a0 0) a1) → (((h (wf w a0 0) a1) < 48 → ((¬ (h (wf w a0 0) a1) = 59 → (((h (wf w a0 0) a1) = 32 → Q 2 h) ∧ (¬ (h (wf w a0 0) a1) = 32 → ((¬ (h (wf w a0 0) a1) = 10 → Q 1 h) ∧ ((h (wf w a0 0) a1) = 10 → Q 2 h))))) ∧ ((h (wf w a0 0) a1) = 59 → Q 5 h))) ∧ (¬ (h (wf w a0 0) a1) < 48 → ((57 < (h (wf w a0 0) a1) → ((¬ (h (wf w a0 0) a1) = 59 → (((h (wf w a0 0) a1) = 32 → Q 2 h) ∧ (¬ (h (wf w a0 0) a1) = 32 → ((¬ (h (wf w a0 0) a1) = 10 → Q 1 h) ∧ ((h (wf w a0 0) a1) = 10 → Q 2 h))))) ∧ ((h (wf w a0 0) a1) = 59 → Q 5 h))) ∧ (¬ 57 < (h (wf w a0 0) a1) → Q 4 h))))) ∧ (¬ 122 < (h (wf w a0 0) a1) → Q 3 h))))))) ∧ (¬ a1 < (wl w (wf w a0 0)) → Q 0 h)))))))))))) : XI mX6_sortAt 0 [some (vR a0), some (vI a1), none] [] w h Q := by
  refine s_iload_n (pc' := 1) (x := a1) dX6_sortAt_0 rfl rfl ?_
  obtain ⟨z1, V⟩ := V
  obtain ⟨V49, V50⟩ := V
  refine s_if_lt (pc' := 4) (tgt := 21) dX6_sortAt_1 rfl rfl z1 (fun c => ?_) (fun c => ?_)
  · have V := V49 c
    refine s_iconst (pc' := 22) dX6_sortAt_21 rfl ?_
    exact s_iret dX6_sortAt_22 rfl ⟨_, rfl, rfl, V⟩
  · have V := V50 c
    refine s_iload_n (pc' := 5) (x := a1) dX6_sortAt_4 rfl rfl ?_
    refine s_aload_n (pc' := 6) (x := a0) dX6_sortAt_5 rfl rfl ?_
    obtain ⟨z2, V⟩ := V
    refine s_get (pc' := 9) (v := vI (h a0 1)) (kc := 6) (i := 1) dX6_sortAt_6 clX6 (by decide) fl_6_1 z2 (fun _ => rfl) rfl ?_
    obtain ⟨z3, V⟩ := V
    obtain ⟨V47, V48⟩ := V
    refine s_icmp_ge (pc' := 12) (tgt := 21) dX6_sortAt_9 rfl rfl z1 z3 (fun c => ?_) (fun c => ?_)
    · have V := V47 c
      refine s_iconst (pc' := 22) dX6_sortAt_21 rfl ?_
      exact s_iret dX6_sortAt_22 rfl ⟨_, rfl, rfl, V⟩
    · have V := V48 c
      refine s_iload_n (pc' := 13) (x := a1) dX6_sortAt_12 rfl rfl ?_
      refine s_aload_n (pc' := 14) (x := a0) dX6_sortAt_13 rfl rfl ?_
      refine s_get (pc' := 17) (v := vR (wf w a0 0)) (kc := 6) (i := 0) dX6_sortAt_14 clX6 (by decide) fl_6_0 z2 (fun _ => rfl) rfl ?_
      obtain ⟨z4, V⟩ := V
      refine s_alen2 (pc' := 18) dX6_sortAt_17 z4 rfl ?_
      obtain ⟨z5, V⟩ := V
      obtain ⟨V45, V46⟩ := V
      refine s_icmp_lt (pc' := 21) (tgt := 23) dX6_sortAt_18 rfl rfl z1 z5 (fun c => ?_) (fun c => ?_)
      · have V := V45 c
        refine s_aload_n (pc' := 24) (x := a0) dX6_sortAt_23 rfl rfl ?_
        refine s_get (pc' := 27) (v := vR (wf w a0 0)) (kc := 6) (i := 0) dX6_sortAt_24 clX6 (by decide) fl_6_0 z2 (fun _ => rfl) rfl ?_
        refine s_iload_n (pc' := 28) (x := a1) dX6_sortAt_27 rfl rfl ?_
        obtain ⟨z6, z7, V⟩ := V
        refine s_bald (pc' := 29) dX6_sortAt_28 z4 z6 z7 rfl ?_
        refine s_istore_n (pc' := 30) (ls' := [some (vR a0), some (vI a1), some (vI (h (wf w a0 0) a1))]) dX6_sortAt_29 (by decide) rfl rfl ?_
        refine s_iload_n (pc' := 31) (x := (h (wf w a0 0) a1)) dX6_sortAt_30 rfl rfl ?_
        refine s_bipush (pc' := 33) dX6_sortAt_31 (by decide) rfl ?_
        obtain ⟨z8, V⟩ := V
        obtain ⟨V43, V44⟩ := V
        refine s_icmp_lt (pc' := 36) (tgt := 44) dX6_sortAt_33 rfl rfl z8 (by decide) (fun c => ?_) (fun c => ?_)
        · have V := V43 c
          refine s_iload_n (pc' := 45) (x := (h (wf w a0 0) a1)) dX6_sortAt_44 rfl rfl ?_
          refine s_bipush (pc' := 47) dX6_sortAt_45 (by decide) rfl ?_
          obtain ⟨V23, V24⟩ := V
          refine s_icmp_lt (pc' := 50) (tgt := 58) dX6_sortAt_47 rfl rfl z8 (by decide) (fun c => ?_) (fun c => ?_)
          · have V := V23 c
            refine s_iload_n (pc' := 59) (x := (h (wf w a0 0) a1)) dX6_sortAt_58 rfl rfl ?_
            refine s_bipush (pc' := 61) dX6_sortAt_59 (by decide) rfl ?_
            obtain ⟨V13, V14⟩ := V
            refine s_icmp_ne (pc' := 64) (tgt := 66) dX6_sortAt_61 rfl rfl z8 (by decide) (fun c => ?_) (fun c => ?_)
            · have V := V13 c
              refine s_iload_n (pc' := 67) (x := (h (wf w a0 0) a1)) dX6_sortAt_66 rfl rfl ?_
              refine s_bipush (pc' := 69) dX6_sortAt_67 (by decide) rfl ?_
              obtain ⟨V11, V12⟩ := V
              refine s_icmp_eq (pc' := 72) (tgt := 78) dX6_sortAt_69 rfl rfl z8 (by decide) (fun c => ?_) (fun c => ?_)
              · have V := V11 c
                refine s_iconst (pc' := 79) dX6_sortAt_78 rfl ?_
                refine s_goto (tgt := 83) dX6_sortAt_79 rfl ?_
                exact s_iret dX6_sortAt_83 rfl ⟨_, rfl, rfl, V⟩
              · have V := V12 c
                refine s_iload_n (pc' := 73) (x := (h (wf w a0 0) a1)) dX6_sortAt_72 rfl rfl ?_
                refine s_bipush (pc' := 75) dX6_sortAt_73 (by decide) rfl ?_
                obtain ⟨V9, V10⟩ := V
                refine s_icmp_ne (pc' := 78) (tgt := 82) dX6_sortAt_75 rfl rfl z8 (by decide) (fun c => ?_) (fun c => ?_)
                · have V := V9 c
                  refine s_iconst (pc' := 83) dX6_sortAt_82 rfl ?_
                  exact s_iret dX6_sortAt_83 rfl ⟨_, rfl, rfl, V⟩
                · have V := V10 c
                  refine s_iconst (pc' := 79) dX6_sortAt_78 rfl ?_
                  refine s_goto (tgt := 83) dX6_sortAt_79 rfl ?_
                  exact s_iret dX6_sortAt_83 rfl ⟨_, rfl, rfl, V⟩
            · have V := V14 c
              refine s_iconst (pc' := 65) dX6_sortAt_64 rfl ?_
              exact s_iret dX6_sortAt_65 rfl ⟨_, rfl, rfl, V⟩
          · have V := V24 c
            refine s_iload_n (pc' := 51) (x := (h (wf w a0 0) a1)) dX6_sortAt_50 rfl rfl ?_
            refine s_bipush (pc' := 53) dX6_sortAt_51 (by decide) rfl ?_
            obtain ⟨V21, V22⟩ := V
            refine s_icmp_gt (pc' := 56) (tgt := 58) dX6_sortAt_53 rfl rfl z8 (by decide) (fun c => ?_) (fun c => ?_)
            · have V := V21 c
              refine s_iload_n (pc' := 59) (x := (h (wf w a0 0) a1)) dX6_sortAt_58 rfl rfl ?_
              refine s_bipush (pc' := 61) dX6_sortAt_59 (by decide) rfl ?_
              obtain ⟨V19, V20⟩ := V
              refine s_icmp_ne (pc' := 64) (tgt := 66) dX6_sortAt_61 rfl rfl z8 (by decide) (fun c => ?_) (fun c => ?_)
              · have V := V19 c
                refine s_iload_n (pc' := 67) (x := (h (wf w a0 0) a1)) dX6_sortAt_66 rfl rfl ?_
                refine s_bipush (pc' := 69) dX6_sortAt_67 (by decide) rfl ?_
                obtain ⟨V17, V18⟩ := V
                refine s_icmp_eq (pc' := 72) (tgt := 78) dX6_sortAt_69 rfl rfl z8 (by decide) (fun c => ?_) (fun c => ?_)
                · have V := V17 c
                  refine s_iconst (pc' := 79) dX6_sortAt_78 rfl ?_
                  refine s_goto (tgt := 83) dX6_sortAt_79 rfl ?_
                  exact s_iret dX6_sortAt_83 rfl ⟨_, rfl, rfl, V⟩
                · have V := V18 c
                  refine s_iload_n (pc' := 73) (x := (h (wf w a0 0) a1)) dX6_sortAt_72 rfl rfl ?_
                  refine s_bipush (pc' := 75) dX6_sortAt_73 (by decide) rfl ?_
                  obtain ⟨V15, V16⟩ := V
                  refine s_icmp_ne (pc' := 78) (tgt := 82) dX6_sortAt_75 rfl rfl z8 (by decide) (fun c => ?_) (fun c => ?_)
                  · have V := V15 c
                    refine s_iconst (pc' := 83) dX6_sortAt_82 rfl ?_
                    exact s_iret dX6_sortAt_83 rfl ⟨_, rfl, rfl, V⟩
                  · have V := V16 c
                    refine s_iconst (pc' := 79) dX6_sortAt_78 rfl ?_
                    refine s_goto (tgt := 83) dX6_sortAt_79 rfl ?_
                    exact s_iret dX6_sortAt_83 rfl ⟨_, rfl, rfl, V⟩
              · have V := V20 c
                refine s_iconst (pc' := 65) dX6_sortAt_64 rfl ?_
                exact s_iret dX6_sortAt_65 rfl ⟨_, rfl, rfl, V⟩
            · have V := V22 c
              refine s_iconst (pc' := 57) dX6_sortAt_56 rfl ?_
              exact s_iret dX6_sortAt_57 rfl ⟨_, rfl, rfl, V⟩
        · have V := V44 c
          refine s_iload_n (pc' := 37) (x := (h (wf w a0 0) a1)) dX6_sortAt_36 rfl rfl ?_
          refine s_bipush (pc' := 39) dX6_sortAt_37 (by decide) rfl ?_
          obtain ⟨V41, V42⟩ := V
          refine s_icmp_gt (pc' := 42) (tgt := 44) dX6_sortAt_39 rfl rfl z8 (by decide) (fun c => ?_) (fun c => ?_)
          · have V := V41 c
            refine s_iload_n (pc' := 45) (x := (h (wf w a0 0) a1)) dX6_sortAt_44 rfl rfl ?_
            refine s_bipush (pc' := 47) dX6_sortAt_45 (by decide) rfl ?_
            obtain ⟨V39, V40⟩ := V
            refine s_icmp_lt (pc' := 50) (tgt := 58) dX6_sortAt_47 rfl rfl z8 (by decide) (fun c => ?_) (fun c => ?_)
            · have V := V39 c
              refine s_iload_n (pc' := 59) (x := (h (wf w a0 0) a1)) dX6_sortAt_58 rfl rfl ?_
              refine s_bipush (pc' := 61) dX6_sortAt_59 (by decide) rfl ?_
              obtain ⟨V29, V30⟩ := V
              refine s_icmp_ne (pc' := 64) (tgt := 66) dX6_sortAt_61 rfl rfl z8 (by decide) (fun c => ?_) (fun c => ?_)
              · have V := V29 c
                refine s_iload_n (pc' := 67) (x := (h (wf w a0 0) a1)) dX6_sortAt_66 rfl rfl ?_
                refine s_bipush (pc' := 69) dX6_sortAt_67 (by decide) rfl ?_
                obtain ⟨V27, V28⟩ := V
                refine s_icmp_eq (pc' := 72) (tgt := 78) dX6_sortAt_69 rfl rfl z8 (by decide) (fun c => ?_) (fun c => ?_)
                · have V := V27 c
                  refine s_iconst (pc' := 79) dX6_sortAt_78 rfl ?_
                  refine s_goto (tgt := 83) dX6_sortAt_79 rfl ?_
                  exact s_iret dX6_sortAt_83 rfl ⟨_, rfl, rfl, V⟩
                · have V := V28 c
                  refine s_iload_n (pc' := 73) (x := (h (wf w a0 0) a1)) dX6_sortAt_72 rfl rfl ?_
                  refine s_bipush (pc' := 75) dX6_sortAt_73 (by decide) rfl ?_
                  obtain ⟨V25, V26⟩ := V
                  refine s_icmp_ne (pc' := 78) (tgt := 82) dX6_sortAt_75 rfl rfl z8 (by decide) (fun c => ?_) (fun c => ?_)
                  · have V := V25 c
                    refine s_iconst (pc' := 83) dX6_sortAt_82 rfl ?_
                    exact s_iret dX6_sortAt_83 rfl ⟨_, rfl, rfl, V⟩
                  · have V := V26 c
                    refine s_iconst (pc' := 79) dX6_sortAt_78 rfl ?_
                    refine s_goto (tgt := 83) dX6_sortAt_79 rfl ?_
                    exact s_iret dX6_sortAt_83 rfl ⟨_, rfl, rfl, V⟩
              · have V := V30 c
                refine s_iconst (pc' := 65) dX6_sortAt_64 rfl ?_
                exact s_iret dX6_sortAt_65 rfl ⟨_, rfl, rfl, V⟩
            · have V := V40 c
              refine s_iload_n (pc' := 51) (x := (h (wf w a0 0) a1)) dX6_sortAt_50 rfl rfl ?_
              refine s_bipush (pc' := 53) dX6_sortAt_51 (by decide) rfl ?_
              obtain ⟨V37, V38⟩ := V
              refine s_icmp_gt (pc' := 56) (tgt := 58) dX6_sortAt_53 rfl rfl z8 (by decide) (fun c => ?_) (fun c => ?_)
              · have V := V37 c
                refine s_iload_n (pc' := 59) (x := (h (wf w a0 0) a1)) dX6_sortAt_58 rfl rfl ?_
                refine s_bipush (pc' := 61) dX6_sortAt_59 (by decide) rfl ?_
                obtain ⟨V35, V36⟩ := V
                refine s_icmp_ne (pc' := 64) (tgt := 66) dX6_sortAt_61 rfl rfl z8 (by decide) (fun c => ?_) (fun c => ?_)
                · have V := V35 c
                  refine s_iload_n (pc' := 67) (x := (h (wf w a0 0) a1)) dX6_sortAt_66 rfl rfl ?_
                  refine s_bipush (pc' := 69) dX6_sortAt_67 (by decide) rfl ?_
                  obtain ⟨V33, V34⟩ := V
                  refine s_icmp_eq (pc' := 72) (tgt := 78) dX6_sortAt_69 rfl rfl z8 (by decide) (fun c => ?_) (fun c => ?_)
                  · have V := V33 c
                    refine s_iconst (pc' := 79) dX6_sortAt_78 rfl ?_
                    refine s_goto (tgt := 83) dX6_sortAt_79 rfl ?_
                    exact s_iret dX6_sortAt_83 rfl ⟨_, rfl, rfl, V⟩
                  · have V := V34 c
                    refine s_iload_n (pc' := 73) (x := (h (wf w a0 0) a1)) dX6_sortAt_72 rfl rfl ?_
                    refine s_bipush (pc' := 75) dX6_sortAt_73 (by decide) rfl ?_
                    obtain ⟨V31, V32⟩ := V
                    refine s_icmp_ne (pc' := 78) (tgt := 82) dX6_sortAt_75 rfl rfl z8 (by decide) (fun c => ?_) (fun c => ?_)
                    · have V := V31 c
                      refine s_iconst (pc' := 83) dX6_sortAt_82 rfl ?_
                      exact s_iret dX6_sortAt_83 rfl ⟨_, rfl, rfl, V⟩
                    · have V := V32 c
                      refine s_iconst (pc' := 79) dX6_sortAt_78 rfl ?_
                      refine s_goto (tgt := 83) dX6_sortAt_79 rfl ?_
                      exact s_iret dX6_sortAt_83 rfl ⟨_, rfl, rfl, V⟩
                · have V := V36 c
                  refine s_iconst (pc' := 65) dX6_sortAt_64 rfl ?_
                  exact s_iret dX6_sortAt_65 rfl ⟨_, rfl, rfl, V⟩
              · have V := V38 c
                refine s_iconst (pc' := 57) dX6_sortAt_56 rfl ?_
                exact s_iret dX6_sortAt_57 rfl ⟨_, rfl, rfl, V⟩
          · have V := V42 c
            refine s_iconst (pc' := 43) dX6_sortAt_42 rfl ?_
            exact s_iret dX6_sortAt_43 rfl ⟨_, rfl, rfl, V⟩
      · have V := V46 c
        refine s_iconst (pc' := 22) dX6_sortAt_21 rfl ?_
        exact s_iret dX6_sortAt_22 rfl ⟨_, rfl, rfl, V⟩
theorem e_X6_cut {w : WS} {h : AH} {Q : AH → Prop} {a0 a1 : Int} (X : XV mX6_cut 0 [some (vR a0), some (vI a1)] [] w h Q) : CV mX6_cut [vR a0, vI a1] w h Q := CA.of (M := mX6_cut) (by decide) rfl (Nat.le_of_ble_eq_true rfl) X
set_option maxRecDepth 20000 in
theorem r_X6_cut_0 {w : WS} {h : AH} {Q : AH → Prop} {a0 a1 : Int} (V : (wt w a0 = 16 ∧ (inR a1 ∧ inR (h a0 1) ∧ (inR (min a1 (h a0 1)) ∧ (∀ h5, h5 = st h a0 1 (max 0 (min a1 (h a0 1))) → Q h5))))) : XV mX6_cut 0 [some (vR a0), some (vI a1)] [] w h Q := by
  refine s_aload_n (pc' := 1) (x := a0) dX6_cut_0 rfl rfl ?_
  refine s_iconst (pc' := 2) dX6_cut_1 rfl ?_
  refine s_iload_n (pc' := 3) (x := a1) dX6_cut_2 rfl rfl ?_
  refine s_aload_n (pc' := 4) (x := a0) dX6_cut_3 rfl rfl ?_
  obtain ⟨z1, V⟩ := V
  refine s_get (pc' := 7) (v := vI (h a0 1)) (kc := 6) (i := 1) dX6_cut_4 clX6 (by decide) fl_6_1 z1 (fun _ => rfl) rfl ?_
  obtain ⟨z2, z3, V⟩ := V
  refine s_min (pc' := 10) dX6_cut_7 ml_6_19 mst_min mini_Math mcode_min (by decide) (Nat.le_of_ble_eq_true rfl) z2 z3 rfl ?_
  obtain ⟨z4, V⟩ := V
  refine s_max (pc' := 13) dX6_cut_10 ml_6_25 mst_max mini_Math mcode_max (by decide) (Nat.le_of_ble_eq_true rfl) (by decide) z4 rfl ?_
  refine s_put (pc' := 16) (v := vI (max 0 (min a1 (h a0 1)))) (x := (max 0 (min a1 (h a0 1)))) (kc := 6) (i := 1) dX6_cut_13 clX6 (by decide) fl_6_1 rfl z1 (fun E => nar_int E _) (fun _ _ => rfl) (j0 := 1) rfl rfl ?_
  obtain ⟨h5, e6⟩ : ∃ q, q = st h a0 1 (max 0 (min a1 (h a0 1))) := ⟨_, rfl⟩
  rw [← e6]
  have V := V h5 e6
  exact s_vret dX6_cut_16 rfl ⟨rfl, rfl, V⟩
theorem e_X6_addNumber {w : WS} {h : AH} {Q : AH → Prop} {a0 a1 : Int} (X : XV mX6_addNumber 0 [some (vR a0), some (vI a1), none] [] w h Q) : CV mX6_addNumber [vR a0, vI a1] w h Q := CA.of (M := mX6_addNumber) (by decide) rfl (Nat.le_of_ble_eq_true rfl) X
set_option maxRecDepth 20000 in
theorem r_X6_addNumber_0 {w : WS} {h : AH} {Q : AH → Prop} {a0 a1 : Int} (V : XV mX6_addNumber 3 [some (vR a0), some (vI a1), some (vI 24)] [] w h Q) : XV mX6_addNumber 0 [some (vR a0), some (vI a1), none] [] w h Q := by
  refine s_bipush (pc' := 2) dX6_addNumber_0 (by decide) rfl ?_
  refine s_istore_n (pc' := 3) (ls' := [some (vR a0), some (vI a1), some (vI 24)]) dX6_addNumber_2 (by decide) rfl rfl ?_
  exact V
set_option maxRecDepth 20000 in
theorem r_X6_addNumber_3 {w : WS} {h : AH} {Q : AH → Prop} {a0 a1 a2 : Int} (V : (inR a2 ∧ ((a2 < 0 → Q h) ∧ (¬ a2 < 0 → (wt w a0 = 16 ∧ (wt w (wf w a0 0) = 2 ∧ (inR (h a0 1) ∧ inR (wl w (wf w a0 0)) ∧ (((wl w (wf w a0 0)) ≤ (h a0 1) → XV mX6_addNumber 3 [some (vR a0), some (vI a1), some (vI (a2 + (-8)))] [] w h Q) ∧ (¬ (wl w (wf w a0 0)) ≤ (h a0 1) → (0 ≤ (h a0 1) ∧ (h a0 1) < wl w (wf w a0 0) ∧ (∀ h8, h8 = st h (wf w a0 0) (h a0 1) (i2bZ (ushrZ a1 a2)) → (∀ h10, h10 = st h8 a0 1 ((h8 a0 1) + 1) → XV mX6_addNumber 3 [some (vR a0), some (vI a1), some (vI (a2 + (-8)))] [] w h10 Q)))))))))))) : XV mX6_addNumber 3 [some (vR a0), some (vI a1), some (vI a2)] [] w h Q := by
  refine s_iload_n (pc' := 4) (x := a2) dX6_addNumber_3 rfl rfl ?_
  obtain ⟨z1, V⟩ := V
  obtain ⟨V14, V15⟩ := V
  refine s_if_lt (pc' := 7) (tgt := 48) dX6_addNumber_4 rfl rfl z1 (fun c => ?_) (fun c => ?_)
  · have V := V14 c
    exact s_vret dX6_addNumber_48 rfl ⟨rfl, rfl, V⟩
  · have V := V15 c
    refine s_aload_n (pc' := 8) (x := a0) dX6_addNumber_7 rfl rfl ?_
    obtain ⟨z2, V⟩ := V
    refine s_get (pc' := 11) (v := vI (h a0 1)) (kc := 6) (i := 1) dX6_addNumber_8 clX6 (by decide) fl_6_1 z2 (fun _ => rfl) rfl ?_
    refine s_aload_n (pc' := 12) (x := a0) dX6_addNumber_11 rfl rfl ?_
    refine s_get (pc' := 15) (v := vR (wf w a0 0)) (kc := 6) (i := 0) dX6_addNumber_12 clX6 (by decide) fl_6_0 z2 (fun _ => rfl) rfl ?_
    obtain ⟨z3, V⟩ := V
    refine s_alen2 (pc' := 16) dX6_addNumber_15 z3 rfl ?_
    obtain ⟨z4, z5, V⟩ := V
    obtain ⟨V12, V13⟩ := V
    refine s_icmp_ge (pc' := 19) (tgt := 42) dX6_addNumber_16 rfl rfl z4 z5 (fun c => ?_) (fun c => ?_)
    · have V := V12 c
      refine s_iinc (pc' := 45) (ls' := [some (vR a0), some (vI a1), some (vI (a2 + (-8)))]) dX6_addNumber_42 rfl (by decide) rfl rfl ?_
      refine s_goto (tgt := 3) dX6_addNumber_45 rfl ?_
      exact V
    · have V := V13 c
      refine s_aload_n (pc' := 20) (x := a0) dX6_addNumber_19 rfl rfl ?_
      refine s_get (pc' := 23) (v := vR (wf w a0 0)) (kc := 6) (i := 0) dX6_addNumber_20 clX6 (by decide) fl_6_0 z2 (fun _ => rfl) rfl ?_
      refine s_aload_n (pc' := 24) (x := a0) dX6_addNumber_23 rfl rfl ?_
      refine s_get (pc' := 27) (v := vI (h a0 1)) (kc := 6) (i := 1) dX6_addNumber_24 clX6 (by decide) fl_6_1 z2 (fun _ => rfl) rfl ?_
      refine s_iload_n (pc' := 28) (x := a1) dX6_addNumber_27 rfl rfl ?_
      refine s_iload_n (pc' := 29) (x := a2) dX6_addNumber_28 rfl rfl ?_
      refine s_iushr (pc' := 30) (z := (ushrZ a1 a2)) dX6_addNumber_29 (ushrZ_ok _ _) rfl ?_
      refine s_i2b (pc' := 31) (y := (i2bZ (ushrZ a1 a2))) dX6_addNumber_30 (i2bZ_ok _) rfl ?_
      obtain ⟨z6, z7, V⟩ := V
      refine s_bast (pc' := 32) dX6_addNumber_31 z3 z6 z7 (nar_byte (i2bZ_in _)) rfl ?_
      obtain ⟨h8, e9⟩ : ∃ q, q = st h (wf w a0 0) (h a0 1) (i2bZ (ushrZ a1 a2)) := ⟨_, rfl⟩
      rw [← e9]
      have V := V h8 e9
      refine s_aload_n (pc' := 33) (x := a0) dX6_addNumber_32 rfl rfl ?_
      refine s_dup (pc' := 34) dX6_addNumber_33 (by intro _ q; cases q) rfl ?_
      refine s_get (pc' := 37) (v := vI (h8 a0 1)) (kc := 6) (i := 1) dX6_addNumber_34 clX6 (by decide) fl_6_1 z2 (fun _ => rfl) rfl ?_
      refine s_iconst (pc' := 38) dX6_addNumber_37 rfl ?_
      refine s_iadd (pc' := 39) dX6_addNumber_38 rfl ?_
      refine s_put (pc' := 42) (v := vI ((h8 a0 1) + 1)) (x := ((h8 a0 1) + 1)) (kc := 6) (i := 1) dX6_addNumber_39 clX6 (by decide) fl_6_1 rfl z2 (fun E => nar_int E _) (fun _ _ => rfl) (j0 := 1) rfl rfl ?_
      obtain ⟨h10, e11⟩ : ∃ q, q = st h8 a0 1 ((h8 a0 1) + 1) := ⟨_, rfl⟩
      rw [← e11]
      have V := V h10 e11
      refine s_iinc (pc' := 45) (ls' := [some (vR a0), some (vI a1), some (vI (a2 + (-8)))]) dX6_addNumber_42 rfl (by decide) rfl rfl ?_
      refine s_goto (tgt := 3) dX6_addNumber_45 rfl ?_
      exact V
theorem e_X6_rewind {w : WS} {h : AH} {Q : AH → Prop} {a0 : Int} (X : XV mX6_rewind 0 [some (vR a0)] [] w h Q) : CV mX6_rewind [vR a0] w h Q := CA.of (M := mX6_rewind) (by decide) rfl (Nat.le_of_ble_eq_true rfl) X
set_option maxRecDepth 20000 in
theorem r_X6_rewind_0 {w : WS} {h : AH} {Q : AH → Prop} {a0 : Int} (V : (wt w a0 = 16 ∧ (∀ h2, h2 = st h a0 3 0 → CV mX6_advance [vR a0] w h2 (fun h4 => Q h4)))) : XV mX6_rewind 0 [some (vR a0)] [] w h Q := by
  refine s_aload_n (pc' := 1) (x := a0) dX6_rewind_0 rfl rfl ?_
  refine s_iconst (pc' := 2) dX6_rewind_1 rfl ?_
  obtain ⟨z1, V⟩ := V
  refine s_put (pc' := 5) (v := vI 0) (x := 0) (kc := 6) (i := 3) dX6_rewind_2 clX6 (by decide) fl_6_3 rfl z1 (fun E => nar_int E _) (fun _ _ => rfl) (j0 := 3) rfl rfl ?_
  obtain ⟨h2, e3⟩ : ∃ q, q = st h a0 3 0 := ⟨_, rfl⟩
  rw [← e3]
  have V := V h2 e3
  refine s_aload_n (pc' := 6) (x := a0) dX6_rewind_5 rfl rfl ?_
  refine s_callV (pc' := 9) (av := []) (a := a0) (sk := []) (kc := 6) dX6_rewind_6 ml_6_31 okX6_advance oiX6_advance (by decide) (NF := 6) rfl z1 rfl (Nat.le_of_ble_eq_true rfl) (Nat.le_refl 0) (Nat.le_refl 0) rfl (CV.on V (fun h4 V => ?_))
  exact s_vret dX6_rewind_9 rfl ⟨rfl, rfl, V⟩
theorem e_X6_advance {w : WS} {h : AH} {Q : AH → Prop} {a0 : Int} (X : XV mX6_advance 0 [some (vR a0), none] [] w h Q) : CV mX6_advance [vR a0] w h Q := CA.of (M := mX6_advance) (by decide) rfl (Nat.le_of_ble_eq_true rfl) X
set_option maxRecDepth 20000 in
theorem r_X6_advance_0 {w : WS} {h : AH} {Q : AH → Prop} {a0 : Int} (V : (wt w a0 = 16 ∧ (inR (h a0 3) ∧ inR (h a0 1) ∧ (((h a0 1) ≤ (h a0 3) → (∀ h4, h4 = st h a0 2 (h a0 3) → CI mX6_sortAt [vR a0, vI (h4 a0 2)] w h4 (fun x7 h6 => (∀ h8, h8 = st h6 a0 4 x7 → (∀ h10, h10 = st h8 a0 5 0 → (inR (h10 a0 4) ∧ (((h10 a0 4) = 3 → XV mX6_advance 77 [some (vR a0), none] [] w h10 Q) ∧ (¬ (h10 a0 4) = 3 → ((¬ (h10 a0 4) = 4 → (((h10 a0 4) = 0 → Q h10) ∧ (¬ (h10 a0 4) = 0 → (∀ h13, h13 = st h10 a0 3 ((h10 a0 3) + 1) → Q h13)))) ∧ ((h10 a0 4) = 4 → XV mX6_advance 77 [some (vR a0), none] [] w h10 Q)))))))))) ∧ (¬ (h a0 1) ≤ (h a0 3) → CI mX6_sortAt [vR a0, vI (h a0 3)] w h (fun x22 h21 => (inR x22 ∧ ((¬ x22 = 2 → (∀ h24, h24 = st h21 a0 2 (h21 a0 3) → CI mX6_sortAt [vR a0, vI (h24 a0 2)] w h24 (fun x27 h26 => (∀ h28, h28 = st h26 a0 4 x27 → (∀ h30, h30 = st h28 a0 5 0 → (inR (h30 a0 4) ∧ (((h30 a0 4) = 3 → XV mX6_advance 77 [some (vR a0), none] [] w h30 Q) ∧ (¬ (h30 a0 4) = 3 → ((¬ (h30 a0 4) = 4 → (((h30 a0 4) = 0 → Q h30) ∧ (¬ (h30 a0 4) = 0 → (∀ h33, h33 = st h30 a0 3 ((h30 a0 3) + 1) → Q h33)))) ∧ ((h30 a0 4) = 4 → XV mX6_advance 77 [some (vR a0), none] [] w h30 Q)))))))))) ∧ (x22 = 2 → (∀ h41, h41 = st h21 a0 3 ((h21 a0 3) + 1) → XV mX6_advance 0 [some (vR a0), none] [] w h41 Q)))))))))) : XV mX6_advance 0 [some (vR a0), none] [] w h Q := by
  refine s_aload_n (pc' := 1) (x := a0) dX6_advance_0 rfl rfl ?_
  obtain ⟨z1, V⟩ := V
  refine s_get (pc' := 4) (v := vI (h a0 3)) (kc := 6) (i := 3) dX6_advance_1 clX6 (by decide) fl_6_3 z1 (fun _ => rfl) rfl ?_
  refine s_aload_n (pc' := 5) (x := a0) dX6_advance_4 rfl rfl ?_
  refine s_get (pc' := 8) (v := vI (h a0 1)) (kc := 6) (i := 1) dX6_advance_5 clX6 (by decide) fl_6_1 z1 (fun _ => rfl) rfl ?_
  obtain ⟨z2, z3, V⟩ := V
  obtain ⟨V45, V46⟩ := V
  refine s_icmp_ge (pc' := 11) (tgt := 36) dX6_advance_8 rfl rfl z2 z3 (fun c => ?_) (fun c => ?_)
  · have V := V45 c
    refine s_aload_n (pc' := 37) (x := a0) dX6_advance_36 rfl rfl ?_
    refine s_aload_n (pc' := 38) (x := a0) dX6_advance_37 rfl rfl ?_
    refine s_get (pc' := 41) (v := vI (h a0 3)) (kc := 6) (i := 3) dX6_advance_38 clX6 (by decide) fl_6_3 z1 (fun _ => rfl) rfl ?_
    refine s_put (pc' := 44) (v := vI (h a0 3)) (x := (h a0 3)) (kc := 6) (i := 2) dX6_advance_41 clX6 (by decide) fl_6_2 rfl z1 (fun E => nar_int E _) (fun _ _ => rfl) (j0 := 2) rfl rfl ?_
    obtain ⟨h4, e5⟩ : ∃ q, q = st h a0 2 (h a0 3) := ⟨_, rfl⟩
    rw [← e5]
    have V := V h4 e5
    refine s_aload_n (pc' := 45) (x := a0) dX6_advance_44 rfl rfl ?_
    refine s_aload_n (pc' := 46) (x := a0) dX6_advance_45 rfl rfl ?_
    refine s_aload_n (pc' := 47) (x := a0) dX6_advance_46 rfl rfl ?_
    refine s_get (pc' := 50) (v := vI (h4 a0 2)) (kc := 6) (i := 2) dX6_advance_47 clX6 (by decide) fl_6_2 z1 (fun _ => rfl) rfl ?_
    refine s_callV (pc' := 53) (av := [vI (h4 a0 2)]) (a := a0) (sk := [vR a0]) (kc := 6) dX6_advance_50 ml_6_34 okX6_sortAt oiX6_sortAt (by decide) (NF := 6) rfl z1 rfl (Nat.le_of_ble_eq_true rfl) (Nat.le_refl 0) (Nat.le_refl 0) rfl (CI.on V (fun x7 h6 V => ?_))
    refine s_put (pc' := 56) (v := vI x7) (x := x7) (kc := 6) (i := 4) dX6_advance_53 clX6 (by decide) fl_6_4 rfl z1 (fun E => nar_int E _) (fun _ _ => rfl) (j0 := 4) rfl rfl ?_
    obtain ⟨h8, e9⟩ : ∃ q, q = st h6 a0 4 x7 := ⟨_, rfl⟩
    rw [← e9]
    have V := V h8 e9
    refine s_aload_n (pc' := 57) (x := a0) dX6_advance_56 rfl rfl ?_
    refine s_iconst (pc' := 58) dX6_advance_57 rfl ?_
    refine s_put (pc' := 61) (v := vI 0) (x := 0) (kc := 6) (i := 5) dX6_advance_58 clX6 (by decide) fl_6_5 rfl z1 (fun E => nar_int E _) (fun _ _ => rfl) (j0 := 5) rfl rfl ?_
    obtain ⟨h10, e11⟩ : ∃ q, q = st h8 a0 5 0 := ⟨_, rfl⟩
    rw [← e11]
    have V := V h10 e11
    refine s_aload_n (pc' := 62) (x := a0) dX6_advance_61 rfl rfl ?_
    refine s_get (pc' := 65) (v := vI (h10 a0 4)) (kc := 6) (i := 4) dX6_advance_62 clX6 (by decide) fl_6_4 z1 (fun _ => rfl) rfl ?_
    refine s_iconst (pc' := 66) dX6_advance_65 rfl ?_
    obtain ⟨z12, V⟩ := V
    obtain ⟨V19, V20⟩ := V
    refine s_icmp_eq (pc' := 69) (tgt := 77) dX6_advance_66 rfl rfl z12 (by decide) (fun c => ?_) (fun c => ?_)
    · have V := V19 c
      exact V
    · have V := V20 c
      refine s_aload_n (pc' := 70) (x := a0) dX6_advance_69 rfl rfl ?_
      refine s_get (pc' := 73) (v := vI (h10 a0 4)) (kc := 6) (i := 4) dX6_advance_70 clX6 (by decide) fl_6_4 z1 (fun _ => rfl) rfl ?_
      refine s_iconst (pc' := 74) dX6_advance_73 rfl ?_
      obtain ⟨V17, V18⟩ := V
      refine s_icmp_ne (pc' := 77) (tgt := 209) dX6_advance_74 rfl rfl z12 (by decide) (fun c => ?_) (fun c => ?_)
      · have V := V17 c
        refine s_aload_n (pc' := 210) (x := a0) dX6_advance_209 rfl rfl ?_
        refine s_get (pc' := 213) (v := vI (h10 a0 4)) (kc := 6) (i := 4) dX6_advance_210 clX6 (by decide) fl_6_4 z1 (fun _ => rfl) rfl ?_
        obtain ⟨V15, V16⟩ := V
        refine s_if_eq (pc' := 216) (tgt := 226) dX6_advance_213 rfl rfl z12 (fun c => ?_) (fun c => ?_)
        · have V := V15 c
          exact s_vret dX6_advance_226 rfl ⟨rfl, rfl, V⟩
        · have V := V16 c
          refine s_aload_n (pc' := 217) (x := a0) dX6_advance_216 rfl rfl ?_
          refine s_dup (pc' := 218) dX6_advance_217 (by intro _ q; cases q) rfl ?_
          refine s_get (pc' := 221) (v := vI (h10 a0 3)) (kc := 6) (i := 3) dX6_advance_218 clX6 (by decide) fl_6_3 z1 (fun _ => rfl) rfl ?_
          refine s_iconst (pc' := 222) dX6_advance_221 rfl ?_
          refine s_iadd (pc' := 223) dX6_advance_222 rfl ?_
          refine s_put (pc' := 226) (v := vI ((h10 a0 3) + 1)) (x := ((h10 a0 3) + 1)) (kc := 6) (i := 3) dX6_advance_223 clX6 (by decide) fl_6_3 rfl z1 (fun E => nar_int E _) (fun _ _ => rfl) (j0 := 3) rfl rfl ?_
          obtain ⟨h13, e14⟩ : ∃ q, q = st h10 a0 3 ((h10 a0 3) + 1) := ⟨_, rfl⟩
          rw [← e14]
          have V := V h13 e14
          exact s_vret dX6_advance_226 rfl ⟨rfl, rfl, V⟩
      · have V := V18 c
        exact V
  · have V := V46 c
    refine s_aload_n (pc' := 12) (x := a0) dX6_advance_11 rfl rfl ?_
    refine s_aload_n (pc' := 13) (x := a0) dX6_advance_12 rfl rfl ?_
    refine s_get (pc' := 16) (v := vI (h a0 3)) (kc := 6) (i := 3) dX6_advance_13 clX6 (by decide) fl_6_3 z1 (fun _ => rfl) rfl ?_
    refine s_callV (pc' := 19) (av := [vI (h a0 3)]) (a := a0) (sk := []) (kc := 6) dX6_advance_16 ml_6_34 okX6_sortAt oiX6_sortAt (by decide) (NF := 6) rfl z1 rfl (Nat.le_of_ble_eq_true rfl) (Nat.le_refl 0) (Nat.le_refl 0) rfl (CI.on V (fun x22 h21 V => ?_))
    refine s_iconst (pc' := 20) dX6_advance_19 rfl ?_
    obtain ⟨z23, V⟩ := V
    obtain ⟨V43, V44⟩ := V
    refine s_icmp_ne (pc' := 23) (tgt := 36) dX6_advance_20 rfl rfl z23 (by decide) (fun c => ?_) (fun c => ?_)
    · have V := V43 c
      refine s_aload_n (pc' := 37) (x := a0) dX6_advance_36 rfl rfl ?_
      refine s_aload_n (pc' := 38) (x := a0) dX6_advance_37 rfl rfl ?_
      refine s_get (pc' := 41) (v := vI (h21 a0 3)) (kc := 6) (i := 3) dX6_advance_38 clX6 (by decide) fl_6_3 z1 (fun _ => rfl) rfl ?_
      refine s_put (pc' := 44) (v := vI (h21 a0 3)) (x := (h21 a0 3)) (kc := 6) (i := 2) dX6_advance_41 clX6 (by decide) fl_6_2 rfl z1 (fun E => nar_int E _) (fun _ _ => rfl) (j0 := 2) rfl rfl ?_
      obtain ⟨h24, e25⟩ : ∃ q, q = st h21 a0 2 (h21 a0 3) := ⟨_, rfl⟩
      rw [← e25]
      have V := V h24 e25
      refine s_aload_n (pc' := 45) (x := a0) dX6_advance_44 rfl rfl ?_
      refine s_aload_n (pc' := 46) (x := a0) dX6_advance_45 rfl rfl ?_
      refine s_aload_n (pc' := 47) (x := a0) dX6_advance_46 rfl rfl ?_
      refine s_get (pc' := 50) (v := vI (h24 a0 2)) (kc := 6) (i := 2) dX6_advance_47 clX6 (by decide) fl_6_2 z1 (fun _ => rfl) rfl ?_
      refine s_callV (pc' := 53) (av := [vI (h24 a0 2)]) (a := a0) (sk := [vR a0]) (kc := 6) dX6_advance_50 ml_6_34 okX6_sortAt oiX6_sortAt (by decide) (NF := 6) rfl z1 rfl (Nat.le_of_ble_eq_true rfl) (Nat.le_refl 0) (Nat.le_refl 0) rfl (CI.on V (fun x27 h26 V => ?_))
      refine s_put (pc' := 56) (v := vI x27) (x := x27) (kc := 6) (i := 4) dX6_advance_53 clX6 (by decide) fl_6_4 rfl z1 (fun E => nar_int E _) (fun _ _ => rfl) (j0 := 4) rfl rfl ?_
      obtain ⟨h28, e29⟩ : ∃ q, q = st h26 a0 4 x27 := ⟨_, rfl⟩
      rw [← e29]
      have V := V h28 e29
      refine s_aload_n (pc' := 57) (x := a0) dX6_advance_56 rfl rfl ?_
      refine s_iconst (pc' := 58) dX6_advance_57 rfl ?_
      refine s_put (pc' := 61) (v := vI 0) (x := 0) (kc := 6) (i := 5) dX6_advance_58 clX6 (by decide) fl_6_5 rfl z1 (fun E => nar_int E _) (fun _ _ => rfl) (j0 := 5) rfl rfl ?_
      obtain ⟨h30, e31⟩ : ∃ q, q = st h28 a0 5 0 := ⟨_, rfl⟩
      rw [← e31]
      have V := V h30 e31
      refine s_aload_n (pc' := 62) (x := a0) dX6_advance_61 rfl rfl ?_
      refine s_get (pc' := 65) (v := vI (h30 a0 4)) (kc := 6) (i := 4) dX6_advance_62 clX6 (by decide) fl_6_4 z1 (fun _ => rfl) rfl ?_
      refine s_iconst (pc' := 66) dX6_advance_65 rfl ?_
      obtain ⟨z32, V⟩ := V
      obtain ⟨V39, V40⟩ := V
      refine s_icmp_eq (pc' := 69) (tgt := 77) dX6_advance_66 rfl rfl z32 (by decide) (fun c => ?_) (fun c => ?_)
      · have V := V39 c
        exact V
      · have V := V40 c
        refine s_aload_n (pc' := 70) (x := a0) dX6_advance_69 rfl rfl ?_
        refine s_get (pc' := 73) (v := vI (h30 a0 4)) (kc := 6) (i := 4) dX6_advance_70 clX6 (by decide) fl_6_4 z1 (fun _ => rfl) rfl ?_
        refine s_iconst (pc' := 74) dX6_advance_73 rfl ?_
        obtain ⟨V37, V38⟩ := V
        refine s_icmp_ne (pc' := 77) (tgt := 209) dX6_advance_74 rfl rfl z32 (by decide) (fun c => ?_) (fun c => ?_)
        · have V := V37 c
          refine s_aload_n (pc' := 210) (x := a0) dX6_advance_209 rfl rfl ?_
          refine s_get (pc' := 213) (v := vI (h30 a0 4)) (kc := 6) (i := 4) dX6_advance_210 clX6 (by decide) fl_6_4 z1 (fun _ => rfl) rfl ?_
          obtain ⟨V35, V36⟩ := V
          refine s_if_eq (pc' := 216) (tgt := 226) dX6_advance_213 rfl rfl z32 (fun c => ?_) (fun c => ?_)
          · have V := V35 c
            exact s_vret dX6_advance_226 rfl ⟨rfl, rfl, V⟩
          · have V := V36 c
            refine s_aload_n (pc' := 217) (x := a0) dX6_advance_216 rfl rfl ?_
            refine s_dup (pc' := 218) dX6_advance_217 (by intro _ q; cases q) rfl ?_
            refine s_get (pc' := 221) (v := vI (h30 a0 3)) (kc := 6) (i := 3) dX6_advance_218 clX6 (by decide) fl_6_3 z1 (fun _ => rfl) rfl ?_
            refine s_iconst (pc' := 222) dX6_advance_221 rfl ?_
            refine s_iadd (pc' := 223) dX6_advance_222 rfl ?_
            refine s_put (pc' := 226) (v := vI ((h30 a0 3) + 1)) (x := ((h30 a0 3) + 1)) (kc := 6) (i := 3) dX6_advance_223 clX6 (by decide) fl_6_3 rfl z1 (fun E => nar_int E _) (fun _ _ => rfl) (j0 := 3) rfl rfl ?_
            obtain ⟨h33, e34⟩ : ∃ q, q = st h30 a0 3 ((h30 a0 3) + 1) := ⟨_, rfl⟩
            rw [← e34]
            have V := V h33 e34
            exact s_vret dX6_advance_226 rfl ⟨rfl, rfl, V⟩
        · have V := V38 c
          exact V
    · have V := V44 c
      refine s_aload_n (pc' := 24) (x := a0) dX6_advance_23 rfl rfl ?_
      refine s_dup (pc' := 25) dX6_advance_24 (by intro _ q; cases q) rfl ?_
      refine s_get (pc' := 28) (v := vI (h21 a0 3)) (kc := 6) (i := 3) dX6_advance_25 clX6 (by decide) fl_6_3 z1 (fun _ => rfl) rfl ?_
      refine s_iconst (pc' := 29) dX6_advance_28 rfl ?_
      refine s_iadd (pc' := 30) dX6_advance_29 rfl ?_
      refine s_put (pc' := 33) (v := vI ((h21 a0 3) + 1)) (x := ((h21 a0 3) + 1)) (kc := 6) (i := 3) dX6_advance_30 clX6 (by decide) fl_6_3 rfl z1 (fun E => nar_int E _) (fun _ _ => rfl) (j0 := 3) rfl rfl ?_
      obtain ⟨h41, e42⟩ : ∃ q, q = st h21 a0 3 ((h21 a0 3) + 1) := ⟨_, rfl⟩
      rw [← e42]
      have V := V h41 e42
      refine s_goto (tgt := 0) dX6_advance_33 rfl ?_
      exact V
set_option maxRecDepth 20000 in
theorem r_X6_advance_77 {w : WS} {h : AH} {Q : AH → Prop} {a0 : Int} (V : (wt w a0 = 16 ∧ (inR (h a0 3) ∧ inR (h a0 1) ∧ (((h a0 1) ≤ (h a0 3) → (inR (h a0 4) ∧ ((¬ (h a0 4) = 3 → (inR ((h a0 3) - (h a0 2)) ∧ ((((h a0 3) - (h a0 2)) ≤ 3 → Q h) ∧ (¬ ((h a0 3) - (h a0 2)) ≤ 3 → (∀ h6, h6 = st h a0 4 1 → Q h6))))) ∧ ((h a0 4) = 3 → (inR ((h a0 3) - (h a0 2)) ∧ ((((h a0 3) - (h a0 2)) ≤ 6 → Q h) ∧ (¬ ((h a0 3) - (h a0 2)) ≤ 6 → (∀ h11, h11 = st h a0 4 1 → Q h11)))))))) ∧ (¬ (h a0 1) ≤ (h a0 3) → CI mX6_sortAt [vR a0, vI (h a0 3)] w h (fun x18 h17 => (inR x18 ∧ inR (h17 a0 4) ∧ ((¬ x18 = (h17 a0 4) → ((¬ (h17 a0 4) = 3 → (inR ((h17 a0 3) - (h17 a0 2)) ∧ ((((h17 a0 3) - (h17 a0 2)) ≤ 3 → Q h17) ∧ (¬ ((h17 a0 3) - (h17 a0 2)) ≤ 3 → (∀ h22, h22 = st h17 a0 4 1 → Q h22))))) ∧ ((h17 a0 4) = 3 → (inR ((h17 a0 3) - (h17 a0 2)) ∧ ((((h17 a0 3) - (h17 a0 2)) ≤ 6 → Q h17) ∧ (¬ ((h17 a0 3) - (h17 a0 2)) ≤ 6 → (∀ h27, h27 = st h17 a0 4 1 → Q h27))))))) ∧ (x18 = (h17 a0 4) → ((¬ (h17 a0 4) = 3 → (wt w (wf w a0 0) = 2 ∧ 0 ≤ (h17 a0 3) ∧ (h17 a0 3) < wl w (wf w a0 0) ∧ (∀ h36, h36 = st h17 a0 5 (((h17 a0 5) * 10) + ((h17 (wf w a0 0) (h17 a0 3)) - 48)) → (∀ h38, h38 = st h36 a0 3 ((h36 a0 3) + 1) → XV mX6_advance 77 [some (vR a0), none] [] w h38 Q)))) ∧ ((h17 a0 4) = 3 → (wt w (wf w a0 0) = 2 ∧ 0 ≤ (h17 a0 3) ∧ (h17 a0 3) < wl w (wf w a0 0) ∧ (∀ h43, h43 = st h17 a0 5 (((h17 a0 5) * 32) + (((h17 (wf w a0 0) (h17 a0 3)) - 97) + 1)) → (∀ h45, h45 = st h43 a0 3 ((h43 a0 3) + 1) → XV mX6_advance 77 [some (vR a0), none] [] w h45 Q)))))))))))))) : XV mX6_advance 77 [some (vR a0), none] [] w h Q := by
  refine s_aload_n (pc' := 78) (x := a0) dX6_advance_77 rfl rfl ?_
  obtain ⟨z1, V⟩ := V
  refine s_get (pc' := 81) (v := vI (h a0 3)) (kc := 6) (i := 3) dX6_advance_78 clX6 (by decide) fl_6_3 z1 (fun _ => rfl) rfl ?_
  refine s_aload_n (pc' := 82) (x := a0) dX6_advance_81 rfl rfl ?_
  refine s_get (pc' := 85) (v := vI (h a0 1)) (kc := 6) (i := 1) dX6_advance_82 clX6 (by decide) fl_6_1 z1 (fun _ => rfl) rfl ?_
  obtain ⟨z2, z3, V⟩ := V
  obtain ⟨V51, V52⟩ := V
  refine s_icmp_ge (pc' := 88) (tgt := 173) dX6_advance_85 rfl rfl z2 z3 (fun c => ?_) (fun c => ?_)
  · have V := V51 c
    refine s_aload_n (pc' := 174) (x := a0) dX6_advance_173 rfl rfl ?_
    refine s_get (pc' := 177) (v := vI (h a0 4)) (kc := 6) (i := 4) dX6_advance_174 clX6 (by decide) fl_6_4 z1 (fun _ => rfl) rfl ?_
    refine s_iconst (pc' := 178) dX6_advance_177 rfl ?_
    obtain ⟨z4, V⟩ := V
    obtain ⟨V15, V16⟩ := V
    refine s_icmp_ne (pc' := 181) (tgt := 186) dX6_advance_178 rfl rfl z4 (by decide) (fun c => ?_) (fun c => ?_)
    · have V := V15 c
      refine s_iconst (pc' := 187) dX6_advance_186 rfl ?_
      refine s_istore_n (pc' := 188) (ls' := [some (vR a0), some (vI 3)]) dX6_advance_187 (by decide) rfl rfl ?_
      refine s_aload_n (pc' := 189) (x := a0) dX6_advance_188 rfl rfl ?_
      refine s_get (pc' := 192) (v := vI (h a0 3)) (kc := 6) (i := 3) dX6_advance_189 clX6 (by decide) fl_6_3 z1 (fun _ => rfl) rfl ?_
      refine s_aload_n (pc' := 193) (x := a0) dX6_advance_192 rfl rfl ?_
      refine s_get (pc' := 196) (v := vI (h a0 2)) (kc := 6) (i := 2) dX6_advance_193 clX6 (by decide) fl_6_2 z1 (fun _ => rfl) rfl ?_
      refine s_isub (pc' := 197) dX6_advance_196 rfl ?_
      refine s_iload_n (pc' := 198) (x := 3) dX6_advance_197 rfl rfl ?_
      obtain ⟨z5, V⟩ := V
      obtain ⟨V8, V9⟩ := V
      refine s_icmp_le (pc' := 201) (tgt := 206) dX6_advance_198 rfl rfl z5 (by decide) (fun c => ?_) (fun c => ?_)
      · have V := V8 c
        refine s_goto (tgt := 226) dX6_advance_206 rfl ?_
        exact s_vret dX6_advance_226 rfl ⟨rfl, rfl, V⟩
      · have V := V9 c
        refine s_aload_n (pc' := 202) (x := a0) dX6_advance_201 rfl rfl ?_
        refine s_iconst (pc' := 203) dX6_advance_202 rfl ?_
        refine s_put (pc' := 206) (v := vI 1) (x := 1) (kc := 6) (i := 4) dX6_advance_203 clX6 (by decide) fl_6_4 rfl z1 (fun E => nar_int E _) (fun _ _ => rfl) (j0 := 4) rfl rfl ?_
        obtain ⟨h6, e7⟩ : ∃ q, q = st h a0 4 1 := ⟨_, rfl⟩
        rw [← e7]
        have V := V h6 e7
        refine s_goto (tgt := 226) dX6_advance_206 rfl ?_
        exact s_vret dX6_advance_226 rfl ⟨rfl, rfl, V⟩
    · have V := V16 c
      refine s_bipush (pc' := 183) dX6_advance_181 (by decide) rfl ?_
      refine s_goto (tgt := 187) dX6_advance_183 rfl ?_
      refine s_istore_n (pc' := 188) (ls' := [some (vR a0), some (vI 6)]) dX6_advance_187 (by decide) rfl rfl ?_
      refine s_aload_n (pc' := 189) (x := a0) dX6_advance_188 rfl rfl ?_
      refine s_get (pc' := 192) (v := vI (h a0 3)) (kc := 6) (i := 3) dX6_advance_189 clX6 (by decide) fl_6_3 z1 (fun _ => rfl) rfl ?_
      refine s_aload_n (pc' := 193) (x := a0) dX6_advance_192 rfl rfl ?_
      refine s_get (pc' := 196) (v := vI (h a0 2)) (kc := 6) (i := 2) dX6_advance_193 clX6 (by decide) fl_6_2 z1 (fun _ => rfl) rfl ?_
      refine s_isub (pc' := 197) dX6_advance_196 rfl ?_
      refine s_iload_n (pc' := 198) (x := 6) dX6_advance_197 rfl rfl ?_
      obtain ⟨z10, V⟩ := V
      obtain ⟨V13, V14⟩ := V
      refine s_icmp_le (pc' := 201) (tgt := 206) dX6_advance_198 rfl rfl z10 (by decide) (fun c => ?_) (fun c => ?_)
      · have V := V13 c
        refine s_goto (tgt := 226) dX6_advance_206 rfl ?_
        exact s_vret dX6_advance_226 rfl ⟨rfl, rfl, V⟩
      · have V := V14 c
        refine s_aload_n (pc' := 202) (x := a0) dX6_advance_201 rfl rfl ?_
        refine s_iconst (pc' := 203) dX6_advance_202 rfl ?_
        refine s_put (pc' := 206) (v := vI 1) (x := 1) (kc := 6) (i := 4) dX6_advance_203 clX6 (by decide) fl_6_4 rfl z1 (fun E => nar_int E _) (fun _ _ => rfl) (j0 := 4) rfl rfl ?_
        obtain ⟨h11, e12⟩ : ∃ q, q = st h a0 4 1 := ⟨_, rfl⟩
        rw [← e12]
        have V := V h11 e12
        refine s_goto (tgt := 226) dX6_advance_206 rfl ?_
        exact s_vret dX6_advance_226 rfl ⟨rfl, rfl, V⟩
  · have V := V52 c
    refine s_aload_n (pc' := 89) (x := a0) dX6_advance_88 rfl rfl ?_
    refine s_aload_n (pc' := 90) (x := a0) dX6_advance_89 rfl rfl ?_
    refine s_get (pc' := 93) (v := vI (h a0 3)) (kc := 6) (i := 3) dX6_advance_90 clX6 (by decide) fl_6_3 z1 (fun _ => rfl) rfl ?_
    refine s_callV (pc' := 96) (av := [vI (h a0 3)]) (a := a0) (sk := []) (kc := 6) dX6_advance_93 ml_6_34 okX6_sortAt oiX6_sortAt (by decide) (NF := 6) rfl z1 rfl (Nat.le_of_ble_eq_true rfl) (Nat.le_refl 0) (Nat.le_refl 0) rfl (CI.on V (fun x18 h17 V => ?_))
    refine s_aload_n (pc' := 97) (x := a0) dX6_advance_96 rfl rfl ?_
    refine s_get (pc' := 100) (v := vI (h17 a0 4)) (kc := 6) (i := 4) dX6_advance_97 clX6 (by decide) fl_6_4 z1 (fun _ => rfl) rfl ?_
    obtain ⟨z19, z20, V⟩ := V
    obtain ⟨V49, V50⟩ := V
    refine s_icmp_ne (pc' := 103) (tgt := 173) dX6_advance_100 rfl rfl z19 z20 (fun c => ?_) (fun c => ?_)
    · have V := V49 c
      refine s_aload_n (pc' := 174) (x := a0) dX6_advance_173 rfl rfl ?_
      refine s_get (pc' := 177) (v := vI (h17 a0 4)) (kc := 6) (i := 4) dX6_advance_174 clX6 (by decide) fl_6_4 z1 (fun _ => rfl) rfl ?_
      refine s_iconst (pc' := 178) dX6_advance_177 rfl ?_
      obtain ⟨V31, V32⟩ := V
      refine s_icmp_ne (pc' := 181) (tgt := 186) dX6_advance_178 rfl rfl z20 (by decide) (fun c => ?_) (fun c => ?_)
      · have V := V31 c
        refine s_iconst (pc' := 187) dX6_advance_186 rfl ?_
        refine s_istore_n (pc' := 188) (ls' := [some (vR a0), some (vI 3)]) dX6_advance_187 (by decide) rfl rfl ?_
        refine s_aload_n (pc' := 189) (x := a0) dX6_advance_188 rfl rfl ?_
        refine s_get (pc' := 192) (v := vI (h17 a0 3)) (kc := 6) (i := 3) dX6_advance_189 clX6 (by decide) fl_6_3 z1 (fun _ => rfl) rfl ?_
        refine s_aload_n (pc' := 193) (x := a0) dX6_advance_192 rfl rfl ?_
        refine s_get (pc' := 196) (v := vI (h17 a0 2)) (kc := 6) (i := 2) dX6_advance_193 clX6 (by decide) fl_6_2 z1 (fun _ => rfl) rfl ?_
        refine s_isub (pc' := 197) dX6_advance_196 rfl ?_
        refine s_iload_n (pc' := 198) (x := 3) dX6_advance_197 rfl rfl ?_
        obtain ⟨z21, V⟩ := V
        obtain ⟨V24, V25⟩ := V
        refine s_icmp_le (pc' := 201) (tgt := 206) dX6_advance_198 rfl rfl z21 (by decide) (fun c => ?_) (fun c => ?_)
        · have V := V24 c
          refine s_goto (tgt := 226) dX6_advance_206 rfl ?_
          exact s_vret dX6_advance_226 rfl ⟨rfl, rfl, V⟩
        · have V := V25 c
          refine s_aload_n (pc' := 202) (x := a0) dX6_advance_201 rfl rfl ?_
          refine s_iconst (pc' := 203) dX6_advance_202 rfl ?_
          refine s_put (pc' := 206) (v := vI 1) (x := 1) (kc := 6) (i := 4) dX6_advance_203 clX6 (by decide) fl_6_4 rfl z1 (fun E => nar_int E _) (fun _ _ => rfl) (j0 := 4) rfl rfl ?_
          obtain ⟨h22, e23⟩ : ∃ q, q = st h17 a0 4 1 := ⟨_, rfl⟩
          rw [← e23]
          have V := V h22 e23
          refine s_goto (tgt := 226) dX6_advance_206 rfl ?_
          exact s_vret dX6_advance_226 rfl ⟨rfl, rfl, V⟩
      · have V := V32 c
        refine s_bipush (pc' := 183) dX6_advance_181 (by decide) rfl ?_
        refine s_goto (tgt := 187) dX6_advance_183 rfl ?_
        refine s_istore_n (pc' := 188) (ls' := [some (vR a0), some (vI 6)]) dX6_advance_187 (by decide) rfl rfl ?_
        refine s_aload_n (pc' := 189) (x := a0) dX6_advance_188 rfl rfl ?_
        refine s_get (pc' := 192) (v := vI (h17 a0 3)) (kc := 6) (i := 3) dX6_advance_189 clX6 (by decide) fl_6_3 z1 (fun _ => rfl) rfl ?_
        refine s_aload_n (pc' := 193) (x := a0) dX6_advance_192 rfl rfl ?_
        refine s_get (pc' := 196) (v := vI (h17 a0 2)) (kc := 6) (i := 2) dX6_advance_193 clX6 (by decide) fl_6_2 z1 (fun _ => rfl) rfl ?_
        refine s_isub (pc' := 197) dX6_advance_196 rfl ?_
        refine s_iload_n (pc' := 198) (x := 6) dX6_advance_197 rfl rfl ?_
        obtain ⟨z26, V⟩ := V
        obtain ⟨V29, V30⟩ := V
        refine s_icmp_le (pc' := 201) (tgt := 206) dX6_advance_198 rfl rfl z26 (by decide) (fun c => ?_) (fun c => ?_)
        · have V := V29 c
          refine s_goto (tgt := 226) dX6_advance_206 rfl ?_
          exact s_vret dX6_advance_226 rfl ⟨rfl, rfl, V⟩
        · have V := V30 c
          refine s_aload_n (pc' := 202) (x := a0) dX6_advance_201 rfl rfl ?_
          refine s_iconst (pc' := 203) dX6_advance_202 rfl ?_
          refine s_put (pc' := 206) (v := vI 1) (x := 1) (kc := 6) (i := 4) dX6_advance_203 clX6 (by decide) fl_6_4 rfl z1 (fun E => nar_int E _) (fun _ _ => rfl) (j0 := 4) rfl rfl ?_
          obtain ⟨h27, e28⟩ : ∃ q, q = st h17 a0 4 1 := ⟨_, rfl⟩
          rw [← e28]
          have V := V h27 e28
          refine s_goto (tgt := 226) dX6_advance_206 rfl ?_
          exact s_vret dX6_advance_226 rfl ⟨rfl, rfl, V⟩
    · have V := V50 c
      refine s_aload_n (pc' := 104) (x := a0) dX6_advance_103 rfl rfl ?_
      refine s_aload_n (pc' := 105) (x := a0) dX6_advance_104 rfl rfl ?_
      refine s_get (pc' := 108) (v := vI (h17 a0 4)) (kc := 6) (i := 4) dX6_advance_105 clX6 (by decide) fl_6_4 z1 (fun _ => rfl) rfl ?_
      refine s_iconst (pc' := 109) dX6_advance_108 rfl ?_
      obtain ⟨V47, V48⟩ := V
      refine s_icmp_ne (pc' := 112) (tgt := 137) dX6_advance_109 rfl rfl z20 (by decide) (fun c => ?_) (fun c => ?_)
      · have V := V47 c
        refine s_aload_n (pc' := 138) (x := a0) dX6_advance_137 rfl rfl ?_
        refine s_get (pc' := 141) (v := vI (h17 a0 5)) (kc := 6) (i := 5) dX6_advance_138 clX6 (by decide) fl_6_5 z1 (fun _ => rfl) rfl ?_
        refine s_bipush (pc' := 143) dX6_advance_141 (by decide) rfl ?_
        refine s_imul (pc' := 144) dX6_advance_143 rfl ?_
        refine s_aload_n (pc' := 145) (x := a0) dX6_advance_144 rfl rfl ?_
        refine s_get (pc' := 148) (v := vR (wf w a0 0)) (kc := 6) (i := 0) dX6_advance_145 clX6 (by decide) fl_6_0 z1 (fun _ => rfl) rfl ?_
        refine s_aload_n (pc' := 149) (x := a0) dX6_advance_148 rfl rfl ?_
        refine s_get (pc' := 152) (v := vI (h17 a0 3)) (kc := 6) (i := 3) dX6_advance_149 clX6 (by decide) fl_6_3 z1 (fun _ => rfl) rfl ?_
        obtain ⟨z33, z34, z35, V⟩ := V
        refine s_bald (pc' := 153) dX6_advance_152 z33 z34 z35 rfl ?_
        refine s_bipush (pc' := 155) dX6_advance_153 (by decide) rfl ?_
        refine s_isub (pc' := 156) dX6_advance_155 rfl ?_
        refine s_iadd (pc' := 157) dX6_advance_156 rfl ?_
        refine s_put (pc' := 160) (v := vI (((h17 a0 5) * 10) + ((h17 (wf w a0 0) (h17 a0 3)) - 48))) (x := (((h17 a0 5) * 10) + ((h17 (wf w a0 0) (h17 a0 3)) - 48))) (kc := 6) (i := 5) dX6_advance_157 clX6 (by decide) fl_6_5 rfl z1 (fun E => nar_int E _) (fun _ _ => rfl) (j0 := 5) rfl rfl ?_
        obtain ⟨h36, e37⟩ : ∃ q, q = st h17 a0 5 (((h17 a0 5) * 10) + ((h17 (wf w a0 0) (h17 a0 3)) - 48)) := ⟨_, rfl⟩
        rw [← e37]
        have V := V h36 e37
        refine s_aload_n (pc' := 161) (x := a0) dX6_advance_160 rfl rfl ?_
        refine s_dup (pc' := 162) dX6_advance_161 (by intro _ q; cases q) rfl ?_
        refine s_get (pc' := 165) (v := vI (h36 a0 3)) (kc := 6) (i := 3) dX6_advance_162 clX6 (by decide) fl_6_3 z1 (fun _ => rfl) rfl ?_
        refine s_iconst (pc' := 166) dX6_advance_165 rfl ?_
        refine s_iadd (pc' := 167) dX6_advance_166 rfl ?_
        refine s_put (pc' := 170) (v := vI ((h36 a0 3) + 1)) (x := ((h36 a0 3) + 1)) (kc := 6) (i := 3) dX6_advance_167 clX6 (by decide) fl_6_3 rfl z1 (fun E => nar_int E _) (fun _ _ => rfl) (j0 := 3) rfl rfl ?_
        obtain ⟨h38, e39⟩ : ∃ q, q = st h36 a0 3 ((h36 a0 3) + 1) := ⟨_, rfl⟩
        rw [← e39]
        have V := V h38 e39
        refine s_goto (tgt := 77) dX6_advance_170 rfl ?_
        exact V
      · have V := V48 c
        refine s_aload_n (pc' := 113) (x := a0) dX6_advance_112 rfl rfl ?_
        refine s_get (pc' := 116) (v := vI (h17 a0 5)) (kc := 6) (i := 5) dX6_advance_113 clX6 (by decide) fl_6_5 z1 (fun _ => rfl) rfl ?_
        refine s_bipush (pc' := 118) dX6_advance_116 (by decide) rfl ?_
        refine s_imul (pc' := 119) dX6_advance_118 rfl ?_
        refine s_aload_n (pc' := 120) (x := a0) dX6_advance_119 rfl rfl ?_
        refine s_get (pc' := 123) (v := vR (wf w a0 0)) (kc := 6) (i := 0) dX6_advance_120 clX6 (by decide) fl_6_0 z1 (fun _ => rfl) rfl ?_
        refine s_aload_n (pc' := 124) (x := a0) dX6_advance_123 rfl rfl ?_
        refine s_get (pc' := 127) (v := vI (h17 a0 3)) (kc := 6) (i := 3) dX6_advance_124 clX6 (by decide) fl_6_3 z1 (fun _ => rfl) rfl ?_
        obtain ⟨z40, z41, z42, V⟩ := V
        refine s_bald (pc' := 128) dX6_advance_127 z40 z41 z42 rfl ?_
        refine s_bipush (pc' := 130) dX6_advance_128 (by decide) rfl ?_
        refine s_isub (pc' := 131) dX6_advance_130 rfl ?_
        refine s_iconst (pc' := 132) dX6_advance_131 rfl ?_
        refine s_iadd (pc' := 133) dX6_advance_132 rfl ?_
        refine s_iadd (pc' := 134) dX6_advance_133 rfl ?_
        refine s_goto (tgt := 157) dX6_advance_134 rfl ?_
        refine s_put (pc' := 160) (v := vI (((h17 a0 5) * 32) + (((h17 (wf w a0 0) (h17 a0 3)) - 97) + 1))) (x := (((h17 a0 5) * 32) + (((h17 (wf w a0 0) (h17 a0 3)) - 97) + 1))) (kc := 6) (i := 5) dX6_advance_157 clX6 (by decide) fl_6_5 rfl z1 (fun E => nar_int E _) (fun _ _ => rfl) (j0 := 5) rfl rfl ?_
        obtain ⟨h43, e44⟩ : ∃ q, q = st h17 a0 5 (((h17 a0 5) * 32) + (((h17 (wf w a0 0) (h17 a0 3)) - 97) + 1)) := ⟨_, rfl⟩
        rw [← e44]
        have V := V h43 e44
        refine s_aload_n (pc' := 161) (x := a0) dX6_advance_160 rfl rfl ?_
        refine s_dup (pc' := 162) dX6_advance_161 (by intro _ q; cases q) rfl ?_
        refine s_get (pc' := 165) (v := vI (h43 a0 3)) (kc := 6) (i := 3) dX6_advance_162 clX6 (by decide) fl_6_3 z1 (fun _ => rfl) rfl ?_
        refine s_iconst (pc' := 166) dX6_advance_165 rfl ?_
        refine s_iadd (pc' := 167) dX6_advance_166 rfl ?_
        refine s_put (pc' := 170) (v := vI ((h43 a0 3) + 1)) (x := ((h43 a0 3) + 1)) (kc := 6) (i := 3) dX6_advance_167 clX6 (by decide) fl_6_3 rfl z1 (fun E => nar_int E _) (fun _ _ => rfl) (j0 := 3) rfl rfl ?_
        obtain ⟨h45, e46⟩ : ∃ q, q = st h43 a0 3 ((h43 a0 3) + 1) := ⟨_, rfl⟩
        rw [← e46]
        have V := V h45 e46
        refine s_goto (tgt := 77) dX6_advance_170 rfl ?_
        exact V
/-- the sort of a byte (signed), as the class numbers them -/
def srC (c : Int) : Int := if 97 ≤ c ∧ c ≤ 122 then 3 else if 48 ≤ c ∧ c ≤ 57 then 4 else if c = 59 then 5 else if c = 32 ∨ c = 10 then 2 else 1
/-- the sort at a place of a tape of n bytes B -/
def srt (n : Int) (B : Int → Int) (p : Int) : Int := if p < 0 ∨ n ≤ p then 0 else srC (B p)
/-- behind the blanks -/
def skp (n : Int) (B : Int → Int) : Nat → Int → Int
  | 0, p => p
  | d + 1, p => if srt n B p = 2 then skp n B d (p + 1) else p
/-- behind the bytes of sort c -/
def rnS (n : Int) (B : Int → Int) (c : Int) : Nat → Int → Int
  | 0, p => p
  | d + 1, p => if srt n B p = c then rnS n B c d (p + 1) else p
/-- a number by its signs -/
def vlS (B : Int → Int) (m z q : Int) : Nat → Int
  | 0 => 0
  | k + 1 => vlS B m z q k * m + (B (q + k) - z)
/-- the token behind place p: where it starts, where the next one may, its type, its value -/
def tkQ (n : Int) (B : Int → Int) (p : Int) : Int := skp n B (n - p).toNat p
def tkE (n : Int) (B : Int → Int) (p : Int) : Int := if srt n B (tkQ n B p) = 3 ∨ srt n B (tkQ n B p) = 4 then rnS n B (srt n B (tkQ n B p)) (n - tkQ n B p).toNat (tkQ n B p) else if srt n B (tkQ n B p) = 0 then tkQ n B p else tkQ n B p + 1
def tkT (n : Int) (B : Int → Int) (p : Int) : Int := if (srt n B (tkQ n B p) = 3 ∧ 6 < tkE n B p - tkQ n B p) ∨ (srt n B (tkQ n B p) = 4 ∧ 3 < tkE n B p - tkQ n B p) then 1 else srt n B (tkQ n B p)
def tkV (n : Int) (B : Int → Int) (p : Int) : Int := if srt n B (tkQ n B p) = 3 then vlS B 32 96 (tkQ n B p) (tkE n B p - tkQ n B p).toNat else if srt n B (tkQ n B p) = 4 then vlS B 10 48 (tkQ n B p) (tkE n B p - tkQ n B p).toNat else 0
def shTape (w : WS) (t : Int) : Prop := wt w t = 16 ∧ wf w t 0 = t + 1 ∧ wt w (t + 1) = 2 ∧ wl w (t + 1) = 600
section
variable {w : WS} {h : AH} {t : Int}
theorem c_X6_sortAt {n p : Int} (s : shTape w t) (hn : h t 1 = n) (n0 : 0 ≤ n ∧ n ≤ 600) (hp : inR p) (hB : ∀ i, 0 ≤ i → i < n → -128 ≤ h (t + 1) i ∧ h (t + 1) i ≤ 127) : CI mX6_sortAt [vR t, vI p] w h (fun x h' => x = srt n (h (t + 1)) p ∧ h' = h) := by
  obtain ⟨s0, f0, t1, l1⟩ := s
  refine e_X6_sortAt (r_X6_sortAt_0 ?_)
  rw [f0, hn, l1]
  refine ⟨hp, fun q => ⟨by rw [srt, if_pos (Or.inl q)], rfl⟩, fun q => ⟨s0, by omega, fun q2 => ⟨by rw [srt, if_pos (Or.inr q2)], rfl⟩, fun q2 => ⟨t1, by omega, fun q3 => ?_, fun q3 => absurd q3 (by omega)⟩⟩⟩
  have b := hB p (by omega) (by omega)
  have e : srt n (h (t + 1)) p = srC (h (t + 1) p) := by rw [srt, if_neg (by omega)]
  rw [e]
  generalize h (t + 1) p = c at b
  have k3 : ¬ c < 97 → ¬ 122 < c → srC c = 3 := fun a b => by rw [srC, if_pos (by omega)]
  have k4 : ¬ c < 48 → ¬ 57 < c → srC c = 4 := fun a b => by rw [srC, if_neg (by omega), if_pos (by omega)]
  have k5 : c = 59 → srC c = 5 := fun a => by rw [srC, if_neg (by omega), if_neg (by omega), if_pos a]
  have k2 : c = 32 ∨ c = 10 → srC c = 2 := fun a => by rw [srC, if_neg (by omega), if_neg (by omega), if_neg (by omega), if_pos a]
  have k1 : (c < 97 ∨ 122 < c) → (c < 48 ∨ 57 < c) → c ≠ 59 → c ≠ 32 → c ≠ 10 → srC c = 1 := fun a1 a2 a3 a4 a5 => by rw [srC, if_neg (by omega), if_neg (by omega), if_neg (by omega), if_neg (by omega)]
  have rest : (c < 97 ∨ 122 < c) → (c < 48 ∨ 57 < c) → ((¬ c = 59 → ((c = 32 → (2 : Int) = srC c ∧ h = h) ∧ (¬ c = 32 → ((¬ c = 10 → (1 : Int) = srC c ∧ h = h) ∧ (c = 10 → (2 : Int) = srC c ∧ h = h))))) ∧ (c = 59 → (5 : Int) = srC c ∧ h = h)) := fun a1 a2 => ⟨fun z => ⟨fun z2 => ⟨(k2 (Or.inl z2)).symm, rfl⟩, fun z2 => ⟨fun z3 => ⟨(k1 a1 a2 z z2 z3).symm, rfl⟩, fun z3 => ⟨(k2 (Or.inr z3)).symm, rfl⟩⟩⟩, fun z => ⟨(k5 z).symm, rfl⟩⟩
  have dig : (c < 97 ∨ 122 < c) → ((c < 48 → ((¬ c = 59 → ((c = 32 → (2 : Int) = srC c ∧ h = h) ∧ (¬ c = 32 → ((¬ c = 10 → (1 : Int) = srC c ∧ h = h) ∧ (c = 10 → (2 : Int) = srC c ∧ h = h))))) ∧ (c = 59 → (5 : Int) = srC c ∧ h = h))) ∧ (¬ c < 48 → ((57 < c → ((¬ c = 59 → ((c = 32 → (2 : Int) = srC c ∧ h = h) ∧ (¬ c = 32 → ((¬ c = 10 → (1 : Int) = srC c ∧ h = h) ∧ (c = 10 → (2 : Int) = srC c ∧ h = h))))) ∧ (c = 59 → (5 : Int) = srC c ∧ h = h))) ∧ (¬ 57 < c → (4 : Int) = srC c ∧ h = h)))) := fun a1 => ⟨fun z => rest a1 (Or.inl z), fun z => ⟨fun z2 => rest a1 (Or.inr z2), fun z2 => ⟨(k4 z z2).symm, rfl⟩⟩⟩
  exact ⟨by omega, by omega, by omega, fun z => dig (Or.inl z), fun z => ⟨fun z2 => dig (Or.inr z2), fun z2 => ⟨(k3 z z2).symm, rfl⟩⟩⟩
end
