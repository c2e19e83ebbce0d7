/-! ===== WakeSaver$Calls ===== -/
def shCalls (w : WS) (c : Int) : Prop := wt w c = 10 ∧ wf w c 0 = c + 1 ∧ wf w c 1 = c + 2 ∧ wf w c 2 = c + 3 ∧ wf w c 3 = c + 4 ∧
  (wt w (c + 1) = 1 ∧ wt w (c + 2) = 1 ∧ wt w (c + 3) = 1 ∧ wt w (c + 4) = 1) ∧ (wl w (c + 2) = wl w (c + 1) ∧ wl w (c + 3) = wl w (c + 1) ∧ wl w (c + 4) = wl w (c + 1)) ∧ (200 ≤ wl w (c + 1) ∧ wl w (c + 1) ≤ 300)
/-- its size is one that it can have -/
abbrev szC (w : WS) (h : AH) (c : Int) : Prop := 0 ≤ h c 4 ∧ h c 4 ≤ wl w (c + 1)
theorem e_X0_clear {w : WS} {h : AH} {Q : AH → Prop} {a0 : Int} (X : XV mX0_clear 0 [some (vR a0)] [] w h Q) : CV mX0_clear [vR a0] w h Q := CA.of (M := mX0_clear) (by decide) rfl (Nat.le_of_ble_eq_true rfl) X
set_option maxRecDepth 20000 in
theorem r_X0_clear_0 {w : WS} {h : AH} {Q : AH → Prop} {a0 : Int} (V : (wt w a0 = 10 ∧ (∀ h2, h2 = st h a0 4 0 → Q h2))) : XV mX0_clear 0 [some (vR a0)] [] w h Q := by
  refine s_aload_n (pc' := 1) (x := a0) dX0_clear_0 rfl rfl ?_
  refine s_iconst (pc' := 2) dX0_clear_1 rfl ?_
  obtain ⟨z1, V⟩ := V
  refine s_put (pc' := 5) (v := vI 0) (x := 0) (kc := 0) (i := 4) dX0_clear_2 clX0 (by decide) fl_0_4 rfl z1 (fun E => nar_int E _) (fun _ _ => rfl) (j0 := 4) rfl rfl ?_
  obtain ⟨h2, e3⟩ : ∃ q, q = st h a0 4 0 := ⟨_, rfl⟩
  rw [← e3]
  have V := V h2 e3
  exact s_vret dX0_clear_5 rfl ⟨rfl, rfl, V⟩
theorem e_X0_size {w : WS} {h : AH} {Q : Int → AH → Prop} {a0 : Int} (X : XI mX0_size 0 [some (vR a0)] [] w h Q) : CI mX0_size [vR a0] w h Q := CA.of (M := mX0_size) (by decide) rfl (Nat.le_of_ble_eq_true rfl) X
set_option maxRecDepth 20000 in
theorem r_X0_size_0 {w : WS} {h : AH} {Q : Int → AH → Prop} {a0 : Int} (V : (wt w a0 = 10 ∧ Q (h a0 4) h)) : XI mX0_size 0 [some (vR a0)] [] w h Q := by
  refine s_aload_n (pc' := 1) (x := a0) dX0_size_0 rfl rfl ?_
  obtain ⟨z1, V⟩ := V
  refine s_get (pc' := 4) (v := vI (h a0 4)) (kc := 0) (i := 4) dX0_size_1 clX0 (by decide) fl_0_4 z1 (fun _ => rfl) rfl ?_
  exact s_iret dX0_size_4 rfl ⟨_, rfl, rfl, V⟩
theorem e_X0_has {w : WS} {h : AH} {Q : Int → AH → Prop} {a0 a1 : Int} (X : XI mX0_has 0 [some (vR a0), some (vI a1)] [] w h Q) : CI mX0_has [vR a0, vI a1] w h Q := CA.of (M := mX0_has) (by decide) rfl (Nat.le_of_ble_eq_true rfl) X
set_option maxRecDepth 20000 in
theorem r_X0_has_0 {w : WS} {h : AH} {Q : Int → AH → Prop} {a0 a1 : Int} (V : (inR a1 ∧ ((a1 < 0 → Q 0 h) ∧ (¬ a1 < 0 → (wt w a0 = 10 ∧ (inR (h a0 4) ∧ (((h a0 4) ≤ a1 → Q 0 h) ∧ (¬ (h a0 4) ≤ a1 → Q 1 h)))))))) : XI mX0_has 0 [some (vR a0), some (vI a1)] [] w h Q := by
  refine s_iload_n (pc' := 1) (x := a1) dX0_has_0 rfl rfl ?_
  obtain ⟨z1, V⟩ := V
  obtain ⟨V6, V7⟩ := V
  refine s_if_lt (pc' := 4) (tgt := 16) dX0_has_1 rfl rfl z1 (fun c => ?_) (fun c => ?_)
  · have V := V6 c
    refine s_iconst (pc' := 17) dX0_has_16 rfl ?_
    exact s_zret dX0_has_17 rfl (by decide) ⟨_, rfl, rfl, V⟩
  · have V := V7 c
    refine s_iload_n (pc' := 5) (x := a1) dX0_has_4 rfl rfl ?_
    refine s_aload_n (pc' := 6) (x := a0) dX0_has_5 rfl rfl ?_
    obtain ⟨z2, V⟩ := V
    refine s_get (pc' := 9) (v := vI (h a0 4)) (kc := 0) (i := 4) dX0_has_6 clX0 (by decide) fl_0_4 z2 (fun _ => rfl) rfl ?_
    obtain ⟨z3, V⟩ := V
    obtain ⟨V4, V5⟩ := V
    refine s_icmp_ge (pc' := 12) (tgt := 16) dX0_has_9 rfl rfl z1 z3 (fun c => ?_) (fun c => ?_)
    · have V := V4 c
      refine s_iconst (pc' := 17) dX0_has_16 rfl ?_
      exact s_zret dX0_has_17 rfl (by decide) ⟨_, rfl, rfl, V⟩
    · have V := V5 c
      refine s_iconst (pc' := 13) dX0_has_12 rfl ?_
      refine s_goto (tgt := 17) dX0_has_13 rfl ?_
      exact s_zret dX0_has_17 rfl (by decide) ⟨_, rfl, rfl, V⟩
section
variable {w : WS} {h : AH} {c k : Int}
theorem c_X0_clear (s0 : wt w c = 10) : CV mX0_clear [vR c] w h (fun h' => h' = st h c 4 0) := e_X0_clear (r_X0_clear_0 ⟨s0, fun _ e => e⟩)
theorem c_X0_size (s0 : wt w c = 10) : CI mX0_size [vR c] w h (fun x h' => x = h c 4 ∧ h' = h) := e_X0_size (r_X0_size_0 ⟨s0, rfl, rfl⟩)
theorem c_X0_has (sh : shCalls w c) (hk : inR k) (hn : szC w h c) : CI mX0_has [vR c, vI k] w h (fun x h' => x = (if 0 ≤ k ∧ k < h c 4 then 1 else 0) ∧ h' = h) := by
  have hl := sh.2.2.2.2.2.2.2
  refine e_X0_has (r_X0_has_0 ⟨hk, fun c => ⟨?_, rfl⟩, fun c => ⟨sh.1, by omega, fun c2 => ⟨?_, rfl⟩, fun c2 => ⟨?_, rfl⟩⟩⟩)
  · rw [if_neg (by omega)]
  · rw [if_neg (by omega)]
  · rw [if_pos (by omega)]
end
theorem e_X0_fromOf {w : WS} {h : AH} {Q : Int → AH → Prop} {a0 a1 : Int} (X : XI mX0_fromOf 0 [some (vR a0), some (vI a1)] [] w h Q) : CI mX0_fromOf [vR a0, vI a1] w h Q := CA.of (M := mX0_fromOf) (by decide) rfl (Nat.le_of_ble_eq_true rfl) X
set_option maxRecDepth 20000 in
theorem r_X0_fromOf_0 {w : WS} {h : AH} {Q : Int → AH → Prop} {a0 a1 : Int} (V : (wt w a0 = 10 ∧ shCalls w a0 ∧ inR a1 ∧ szC w h a0 ∧ ((¬ (0 ≤ a1 ∧ a1 < h a0 4) → Q (-1) h) ∧ ((0 ≤ a1 ∧ a1 < h a0 4) → (wt w (wf w a0 0) = 1 ∧ 0 ≤ a1 ∧ a1 < wl w (wf w a0 0) ∧ Q (h (wf w a0 0) a1) h))))) : XI mX0_fromOf 0 [some (vR a0), some (vI a1)] [] w h Q := by
  refine s_aload_n (pc' := 1) (x := a0) dX0_fromOf_0 rfl rfl ?_
  refine s_iload_n (pc' := 2) (x := a1) dX0_fromOf_1 rfl rfl ?_
  obtain ⟨z1, z2, z3, z4, V⟩ := V
  refine s_callV (pc' := 5) (av := [vI a1]) (a := a0) (sk := []) (kc := 0) dX0_fromOf_2 ml_0_34 okX0_has oiX0_has (by decide) (NF := 5) rfl z1 rfl (Nat.le_of_ble_eq_true rfl) (Nat.le_refl 0) (Nat.le_refl 0) rfl (CI.eon (c_X0_has z2 z3 z4) ?_)
  obtain ⟨V8, V9⟩ := V
  refine s_ifeq_b (pc' := 8) (tgt := 17) dX0_fromOf_5 rfl rfl (fun c => ?_) (fun c => ?_)
  · have V := V8 c
    refine s_iconst (pc' := 18) dX0_fromOf_17 rfl ?_
    exact s_iret dX0_fromOf_18 rfl ⟨_, rfl, rfl, V⟩
  · have V := V9 c
    refine s_aload_n (pc' := 9) (x := a0) dX0_fromOf_8 rfl rfl ?_
    refine s_get (pc' := 12) (v := vR (wf w a0 0)) (kc := 0) (i := 0) dX0_fromOf_9 clX0 (by decide) fl_0_0 z1 (fun _ => rfl) rfl ?_
    refine s_iload_n (pc' := 13) (x := a1) dX0_fromOf_12 rfl rfl ?_
    obtain ⟨z5, z6, z7, V⟩ := V
    refine s_iald (pc' := 14) dX0_fromOf_13 z5 z6 z7 rfl ?_
    refine s_goto (tgt := 18) dX0_fromOf_14 rfl ?_
    exact s_iret dX0_fromOf_18 rfl ⟨_, rfl, rfl, V⟩
theorem e_X0_latestOf {w : WS} {h : AH} {Q : Int → AH → Prop} {a0 a1 : Int} (X : XI mX0_latestOf 0 [some (vR a0), some (vI a1)] [] w h Q) : CI mX0_latestOf [vR a0, vI a1] w h Q := CA.of (M := mX0_latestOf) (by decide) rfl (Nat.le_of_ble_eq_true rfl) X
set_option maxRecDepth 20000 in
theorem r_X0_latestOf_0 {w : WS} {h : AH} {Q : Int → AH → Prop} {a0 a1 : Int} (V : (wt w a0 = 10 ∧ shCalls w a0 ∧ inR a1 ∧ szC w h a0 ∧ ((¬ (0 ≤ a1 ∧ a1 < h a0 4) → Q (-1) h) ∧ ((0 ≤ a1 ∧ a1 < h a0 4) → (wt w (wf w a0 1) = 1 ∧ 0 ≤ a1 ∧ a1 < wl w (wf w a0 1) ∧ Q (h (wf w a0 1) a1) h))))) : XI mX0_latestOf 0 [some (vR a0), some (vI a1)] [] w h Q := by
  refine s_aload_n (pc' := 1) (x := a0) dX0_latestOf_0 rfl rfl ?_
  refine s_iload_n (pc' := 2) (x := a1) dX0_latestOf_1 rfl rfl ?_
  obtain ⟨z1, z2, z3, z4, V⟩ := V
  refine s_callV (pc' := 5) (av := [vI a1]) (a := a0) (sk := []) (kc := 0) dX0_latestOf_2 ml_0_34 okX0_has oiX0_has (by decide) (NF := 5) rfl z1 rfl (Nat.le_of_ble_eq_true rfl) (Nat.le_refl 0) (Nat.le_refl 0) rfl (CI.eon (c_X0_has z2 z3 z4) ?_)
  obtain ⟨V8, V9⟩ := V
  refine s_ifeq_b (pc' := 8) (tgt := 17) dX0_latestOf_5 rfl rfl (fun c => ?_) (fun c => ?_)
  · have V := V8 c
    refine s_iconst (pc' := 18) dX0_latestOf_17 rfl ?_
    exact s_iret dX0_latestOf_18 rfl ⟨_, rfl, rfl, V⟩
  · have V := V9 c
    refine s_aload_n (pc' := 9) (x := a0) dX0_latestOf_8 rfl rfl ?_
    refine s_get (pc' := 12) (v := vR (wf w a0 1)) (kc := 0) (i := 1) dX0_latestOf_9 clX0 (by decide) fl_0_1 z1 (fun _ => rfl) rfl ?_
    refine s_iload_n (pc' := 13) (x := a1) dX0_latestOf_12 rfl rfl ?_
    obtain ⟨z5, z6, z7, V⟩ := V
    refine s_iald (pc' := 14) dX0_latestOf_13 z5 z6 z7 rfl ?_
    refine s_goto (tgt := 18) dX0_latestOf_14 rfl ?_
    exact s_iret dX0_latestOf_18 rfl ⟨_, rfl, rfl, V⟩
theorem e_X0_weightOf {w : WS} {h : AH} {Q : Int → AH → Prop} {a0 a1 : Int} (X : XI mX0_weightOf 0 [some (vR a0), some (vI a1)] [] w h Q) : CI mX0_weightOf [vR a0, vI a1] w h Q := CA.of (M := mX0_weightOf) (by decide) rfl (Nat.le_of_ble_eq_true rfl) X
set_option maxRecDepth 20000 in
theorem r_X0_weightOf_0 {w : WS} {h : AH} {Q : Int → AH → Prop} {a0 a1 : Int} (V : (wt w a0 = 10 ∧ shCalls w a0 ∧ inR a1 ∧ szC w h a0 ∧ ((¬ (0 ≤ a1 ∧ a1 < h a0 4) → Q (-1) h) ∧ ((0 ≤ a1 ∧ a1 < h a0 4) → (wt w (wf w a0 2) = 1 ∧ 0 ≤ a1 ∧ a1 < wl w (wf w a0 2) ∧ Q (h (wf w a0 2) a1) h))))) : XI mX0_weightOf 0 [some (vR a0), some (vI a1)] [] w h Q := by
  refine s_aload_n (pc' := 1) (x := a0) dX0_weightOf_0 rfl rfl ?_
  refine s_iload_n (pc' := 2) (x := a1) dX0_weightOf_1 rfl rfl ?_
  obtain ⟨z1, z2, z3, z4, V⟩ := V
  refine s_callV (pc' := 5) (av := [vI a1]) (a := a0) (sk := []) (kc := 0) dX0_weightOf_2 ml_0_34 okX0_has oiX0_has (by decide) (NF := 5) rfl z1 rfl (Nat.le_of_ble_eq_true rfl) (Nat.le_refl 0) (Nat.le_refl 0) rfl (CI.eon (c_X0_has z2 z3 z4) ?_)
  obtain ⟨V8, V9⟩ := V
  refine s_ifeq_b (pc' := 8) (tgt := 17) dX0_weightOf_5 rfl rfl (fun c => ?_) (fun c => ?_)
  · have V := V8 c
    refine s_iconst (pc' := 18) dX0_weightOf_17 rfl ?_
    exact s_iret dX0_weightOf_18 rfl ⟨_, rfl, rfl, V⟩
  · have V := V9 c
    refine s_aload_n (pc' := 9) (x := a0) dX0_weightOf_8 rfl rfl ?_
    refine s_get (pc' := 12) (v := vR (wf w a0 2)) (kc := 0) (i := 2) dX0_weightOf_9 clX0 (by decide) fl_0_2 z1 (fun _ => rfl) rfl ?_
    refine s_iload_n (pc' := 13) (x := a1) dX0_weightOf_12 rfl rfl ?_
    obtain ⟨z5, z6, z7, V⟩ := V
    refine s_iald (pc' := 14) dX0_weightOf_13 z5 z6 z7 rfl ?_
    refine s_goto (tgt := 18) dX0_weightOf_14 rfl ?_
    exact s_iret dX0_weightOf_18 rfl ⟨_, rfl, rfl, V⟩
theorem e_X0_timerOf {w : WS} {h : AH} {Q : Int → AH → Prop} {a0 a1 : Int} (X : XI mX0_timerOf 0 [some (vR a0), some (vI a1)] [] w h Q) : CI mX0_timerOf [vR a0, vI a1] w h Q := CA.of (M := mX0_timerOf) (by decide) rfl (Nat.le_of_ble_eq_true rfl) X
set_option maxRecDepth 20000 in
theorem r_X0_timerOf_0 {w : WS} {h : AH} {Q : Int → AH → Prop} {a0 a1 : Int} (V : (wt w a0 = 10 ∧ shCalls w a0 ∧ inR a1 ∧ szC w h a0 ∧ ((¬ (0 ≤ a1 ∧ a1 < h a0 4) → Q (-1) h) ∧ ((0 ≤ a1 ∧ a1 < h a0 4) → (wt w (wf w a0 3) = 1 ∧ 0 ≤ a1 ∧ a1 < wl w (wf w a0 3) ∧ Q (h (wf w a0 3) a1) h))))) : XI mX0_timerOf 0 [some (vR a0), some (vI a1)] [] w h Q := by
  refine s_aload_n (pc' := 1) (x := a0) dX0_timerOf_0 rfl rfl ?_
  refine s_iload_n (pc' := 2) (x := a1) dX0_timerOf_1 rfl rfl ?_
  obtain ⟨z1, z2, z3, z4, V⟩ := V
  refine s_callV (pc' := 5) (av := [vI a1]) (a := a0) (sk := []) (kc := 0) dX0_timerOf_2 ml_0_34 okX0_has oiX0_has (by decide) (NF := 5) rfl z1 rfl (Nat.le_of_ble_eq_true rfl) (Nat.le_refl 0) (Nat.le_refl 0) rfl (CI.eon (c_X0_has z2 z3 z4) ?_)
  obtain ⟨V8, V9⟩ := V
  refine s_ifeq_b (pc' := 8) (tgt := 17) dX0_timerOf_5 rfl rfl (fun c => ?_) (fun c => ?_)
  · have V := V8 c
    refine s_iconst (pc' := 18) dX0_timerOf_17 rfl ?_
    exact s_iret dX0_timerOf_18 rfl ⟨_, rfl, rfl, V⟩
  · have V := V9 c
    refine s_aload_n (pc' := 9) (x := a0) dX0_timerOf_8 rfl rfl ?_
    refine s_get (pc' := 12) (v := vR (wf w a0 3)) (kc := 0) (i := 3) dX0_timerOf_9 clX0 (by decide) fl_0_3 z1 (fun _ => rfl) rfl ?_
    refine s_iload_n (pc' := 13) (x := a1) dX0_timerOf_12 rfl rfl ?_
    obtain ⟨z5, z6, z7, V⟩ := V
    refine s_iald (pc' := 14) dX0_timerOf_13 z5 z6 z7 rfl ?_
    refine s_goto (tgt := 18) dX0_timerOf_14 rfl ?_
    exact s_iret dX0_timerOf_18 rfl ⟨_, rfl, rfl, V⟩
section
variable {w : WS} {h : AH} {c k : Int}
theorem c_X0_fromOf (sh : shCalls w c) (hk : inR k) (hn : szC w h c) : CI mX0_fromOf [vR c, vI k] w h (fun x h' => x = (if 0 ≤ k ∧ k < h c 4 then h (c + 1) k else -1) ∧ h' = h) := by
  obtain ⟨s0, f0, f1, f2, f3, ⟨t1, t2, t3, t4⟩, ⟨l2, l3, l4⟩, l1⟩ := id sh
  refine e_X0_fromOf (r_X0_fromOf_0 ?_)
  rw [f0]
  exact ⟨s0, sh, hk, hn, fun q => ⟨(if_neg q).symm, rfl⟩, fun q => ⟨t1, q.1, by omega, (if_pos q).symm, rfl⟩⟩
theorem c_X0_latestOf (sh : shCalls w c) (hk : inR k) (hn : szC w h c) : CI mX0_latestOf [vR c, vI k] w h (fun x h' => x = (if 0 ≤ k ∧ k < h c 4 then h (c + 2) k else -1) ∧ h' = h) := by
  obtain ⟨s0, f0, f1, f2, f3, ⟨t1, t2, t3, t4⟩, ⟨l2, l3, l4⟩, l1⟩ := id sh
  refine e_X0_latestOf (r_X0_latestOf_0 ?_)
  rw [f1]
  exact ⟨s0, sh, hk, hn, fun q => ⟨(if_neg q).symm, rfl⟩, fun q => ⟨t2, q.1, by omega, (if_pos q).symm, rfl⟩⟩
theorem c_X0_weightOf (sh : shCalls w c) (hk : inR k) (hn : szC w h c) : CI mX0_weightOf [vR c, vI k] w h (fun x h' => x = (if 0 ≤ k ∧ k < h c 4 then h (c + 3) k else -1) ∧ h' = h) := by
  obtain ⟨s0, f0, f1, f2, f3, ⟨t1, t2, t3, t4⟩, ⟨l2, l3, l4⟩, l1⟩ := id sh
  refine e_X0_weightOf (r_X0_weightOf_0 ?_)
  rw [f2]
  exact ⟨s0, sh, hk, hn, fun q => ⟨(if_neg q).symm, rfl⟩, fun q => ⟨t3, q.1, by omega, (if_pos q).symm, rfl⟩⟩
theorem c_X0_timerOf (sh : shCalls w c) (hk : inR k) (hn : szC w h c) : CI mX0_timerOf [vR c, vI k] w h (fun x h' => x = (if 0 ≤ k ∧ k < h c 4 then h (c + 4) k else -1) ∧ h' = h) := by
  obtain ⟨s0, f0, f1, f2, f3, ⟨t1, t2, t3, t4⟩, ⟨l2, l3, l4⟩, l1⟩ := id sh
  refine e_X0_timerOf (r_X0_timerOf_0 ?_)
  rw [f3]
  exact ⟨s0, sh, hk, hn, fun q => ⟨(if_neg q).symm, rfl⟩, fun q => ⟨t4, q.1, by omega, (if_pos q).symm, rfl⟩⟩
end
theorem e_X0_add {w : WS} {h : AH} {Q : AH → Prop} {a0 a1 a2 a3 a4 : Int} (X : XV mX0_add 0 [some (vR a0), some (vI a1), some (vI a2), some (vI a3), some (vI a4)] [] w h Q) : CV mX0_add [vR a0, vI a1, vI a2, vI a3, vI a4] w h Q := CA.of (M := mX0_add) (by decide) rfl (Nat.le_of_ble_eq_true rfl) X
set_option maxRecDepth 20000 in
theorem r_X0_add_0 {w : WS} {h : AH} {Q : AH → Prop} {a0 a1 a2 a3 a4 : Int} (V : (wt w a0 = 10 ∧ (wt w (wf w a0 0) = 1 ∧ (inR (h a0 4) ∧ inR (wl w (wf w a0 0)) ∧ (((wl w (wf w a0 0)) ≤ (h a0 4) → Q h) ∧ (¬ (wl w (wf w a0 0)) ≤ (h a0 4) → (0 ≤ (h a0 4) ∧ (h a0 4) < wl w (wf w a0 0) ∧ (∀ h7, h7 = st h (wf w a0 0) (h a0 4) a1 → (wt w (wf w a0 1) = 1 ∧ 0 ≤ (h7 a0 4) ∧ (h7 a0 4) < wl w (wf w a0 1) ∧ (∀ h12, h12 = st h7 (wf w a0 1) (h7 a0 4) a2 → (wt w (wf w a0 2) = 1 ∧ 0 ≤ (h12 a0 4) ∧ (h12 a0 4) < wl w (wf w a0 2) ∧ (∀ h17, h17 = st h12 (wf w a0 2) (h12 a0 4) a3 → (wt w (wf w a0 3) = 1 ∧ 0 ≤ (h17 a0 4) ∧ (h17 a0 4) < wl w (wf w a0 3) ∧ (∀ h22, h22 = st h17 (wf w a0 3) (h17 a0 4) a4 → (∀ h24, h24 = st h22 a0 4 ((h22 a0 4) + 1) → Q h24))))))))))))))) : XV mX0_add 0 [some (vR a0), some (vI a1), some (vI a2), some (vI a3), some (vI a4)] [] w h Q := by
  refine s_aload_n (pc' := 1) (x := a0) dX0_add_0 rfl rfl ?_
  obtain ⟨z1, V⟩ := V
  refine s_get (pc' := 4) (v := vI (h a0 4)) (kc := 0) (i := 4) dX0_add_1 clX0 (by decide) fl_0_4 z1 (fun _ => rfl) rfl ?_
  refine s_aload_n (pc' := 5) (x := a0) dX0_add_4 rfl rfl ?_
  refine s_get (pc' := 8) (v := vR (wf w a0 0)) (kc := 0) (i := 0) dX0_add_5 clX0 (by decide) fl_0_0 z1 (fun _ => rfl) rfl ?_
  obtain ⟨z2, V⟩ := V
  refine s_alen1 (pc' := 9) dX0_add_8 z2 rfl ?_
  obtain ⟨z3, z4, V⟩ := V
  obtain ⟨V26, V27⟩ := V
  refine s_icmp_ge (pc' := 12) (tgt := 63) dX0_add_9 rfl rfl z3 z4 (fun c => ?_) (fun c => ?_)
  · have V := V26 c
    exact s_vret dX0_add_63 rfl ⟨rfl, rfl, V⟩
  · have V := V27 c
    refine s_aload_n (pc' := 13) (x := a0) dX0_add_12 rfl rfl ?_
    refine s_get (pc' := 16) (v := vR (wf w a0 0)) (kc := 0) (i := 0) dX0_add_13 clX0 (by decide) fl_0_0 z1 (fun _ => rfl) rfl ?_
    refine s_aload_n (pc' := 17) (x := a0) dX0_add_16 rfl rfl ?_
    refine s_get (pc' := 20) (v := vI (h a0 4)) (kc := 0) (i := 4) dX0_add_17 clX0 (by decide) fl_0_4 z1 (fun _ => rfl) rfl ?_
    refine s_iload_n (pc' := 21) (x := a1) dX0_add_20 rfl rfl ?_
    obtain ⟨z5, z6, V⟩ := V
    refine s_iast (pc' := 22) dX0_add_21 z2 z5 z6 rfl ?_
    obtain ⟨h7, e8⟩ : ∃ q, q = st h (wf w a0 0) (h a0 4) a1 := ⟨_, rfl⟩
    rw [← e8]
    have V := V h7 e8
    refine s_aload_n (pc' := 23) (x := a0) dX0_add_22 rfl rfl ?_
    refine s_get (pc' := 26) (v := vR (wf w a0 1)) (kc := 0) (i := 1) dX0_add_23 clX0 (by decide) fl_0_1 z1 (fun _ => rfl) rfl ?_
    refine s_aload_n (pc' := 27) (x := a0) dX0_add_26 rfl rfl ?_
    refine s_get (pc' := 30) (v := vI (h7 a0 4)) (kc := 0) (i := 4) dX0_add_27 clX0 (by decide) fl_0_4 z1 (fun _ => rfl) rfl ?_
    refine s_iload_n (pc' := 31) (x := a2) dX0_add_30 rfl rfl ?_
    obtain ⟨z9, z10, z11, V⟩ := V
    refine s_iast (pc' := 32) dX0_add_31 z9 z10 z11 rfl ?_
    obtain ⟨h12, e13⟩ : ∃ q, q = st h7 (wf w a0 1) (h7 a0 4) a2 := ⟨_, rfl⟩
    rw [← e13]
    have V := V h12 e13
    refine s_aload_n (pc' := 33) (x := a0) dX0_add_32 rfl rfl ?_
    refine s_get (pc' := 36) (v := vR (wf w a0 2)) (kc := 0) (i := 2) dX0_add_33 clX0 (by decide) fl_0_2 z1 (fun _ => rfl) rfl ?_
    refine s_aload_n (pc' := 37) (x := a0) dX0_add_36 rfl rfl ?_
    refine s_get (pc' := 40) (v := vI (h12 a0 4)) (kc := 0) (i := 4) dX0_add_37 clX0 (by decide) fl_0_4 z1 (fun _ => rfl) rfl ?_
    refine s_iload_n (pc' := 41) (x := a3) dX0_add_40 rfl rfl ?_
    obtain ⟨z14, z15, z16, V⟩ := V
    refine s_iast (pc' := 42) dX0_add_41 z14 z15 z16 rfl ?_
    obtain ⟨h17, e18⟩ : ∃ q, q = st h12 (wf w a0 2) (h12 a0 4) a3 := ⟨_, rfl⟩
    rw [← e18]
    have V := V h17 e18
    refine s_aload_n (pc' := 43) (x := a0) dX0_add_42 rfl rfl ?_
    refine s_get (pc' := 46) (v := vR (wf w a0 3)) (kc := 0) (i := 3) dX0_add_43 clX0 (by decide) fl_0_3 z1 (fun _ => rfl) rfl ?_
    refine s_aload_n (pc' := 47) (x := a0) dX0_add_46 rfl rfl ?_
    refine s_get (pc' := 50) (v := vI (h17 a0 4)) (kc := 0) (i := 4) dX0_add_47 clX0 (by decide) fl_0_4 z1 (fun _ => rfl) rfl ?_
    refine s_iload (pc' := 52) (x := a4) dX0_add_50 rfl rfl ?_
    obtain ⟨z19, z20, z21, V⟩ := V
    refine s_iast (pc' := 53) dX0_add_52 z19 z20 z21 rfl ?_
    obtain ⟨h22, e23⟩ : ∃ q, q = st h17 (wf w a0 3) (h17 a0 4) a4 := ⟨_, rfl⟩
    rw [← e23]
    have V := V h22 e23
    refine s_aload_n (pc' := 54) (x := a0) dX0_add_53 rfl rfl ?_
    refine s_dup (pc' := 55) dX0_add_54 (by intro _ q; cases q) rfl ?_
    refine s_get (pc' := 58) (v := vI (h22 a0 4)) (kc := 0) (i := 4) dX0_add_55 clX0 (by decide) fl_0_4 z1 (fun _ => rfl) rfl ?_
    refine s_iconst (pc' := 59) dX0_add_58 rfl ?_
    refine s_iadd (pc' := 60) dX0_add_59 rfl ?_
    refine s_put (pc' := 63) (v := vI ((h22 a0 4) + 1)) (x := ((h22 a0 4) + 1)) (kc := 0) (i := 4) dX0_add_60 clX0 (by decide) fl_0_4 rfl z1 (fun E => nar_int E _) (fun _ _ => rfl) (j0 := 4) rfl rfl ?_
    obtain ⟨h24, e25⟩ : ∃ q, q = st h22 a0 4 ((h22 a0 4) + 1) := ⟨_, rfl⟩
    rw [← e25]
    have V := V h24 e25
    exact s_vret dX0_add_63 rfl ⟨rfl, rfl, V⟩
theorem e_X0_gather {w : WS} {h : AH} {Q : AH → Prop} {a0 a1 : Int} (X : XV mX0_gather 0 [some (vR a0), some (vR a1), none, none] [] w h Q) : CV mX0_gather [vR a0, vR a1] w h Q := CA.of (M := mX0_gather) (by decide) rfl (Nat.le_of_ble_eq_true rfl) X
set_option maxRecDepth 20000 in
theorem r_X0_gather_0 {w : WS} {h : AH} {Q : AH → Prop} {a0 a1 : Int} (V : (wt w a0 = 10 ∧ (∀ h2, h2 = st h a0 4 0 → XV mX0_gather 7 [some (vR a0), some (vR a1), some (vI 0), none] [] w h2 Q))) : XV mX0_gather 0 [some (vR a0), some (vR a1), none, none] [] w h Q := by
  refine s_aload_n (pc' := 1) (x := a0) dX0_gather_0 rfl rfl ?_
  refine s_iconst (pc' := 2) dX0_gather_1 rfl ?_
  obtain ⟨z1, V⟩ := V
  refine s_put (pc' := 5) (v := vI 0) (x := 0) (kc := 0) (i := 4) dX0_gather_2 clX0 (by decide) fl_0_4 rfl z1 (fun E => nar_int E _) (fun _ _ => rfl) (j0 := 4) rfl rfl ?_
  obtain ⟨h2, e3⟩ : ∃ q, q = st h a0 4 0 := ⟨_, rfl⟩
  rw [← e3]
  have V := V h2 e3
  refine s_iconst (pc' := 6) dX0_gather_5 rfl ?_
  refine s_istore_n (pc' := 7) (ls' := [some (vR a0), some (vR a1), some (vI 0), none]) dX0_gather_6 (by decide) rfl rfl ?_
  exact V
set_option maxRecDepth 20000 in
theorem r_X0_gather_7 {w : WS} {h : AH} {Q : AH → Prop} {a0 a1 a2 : Int} (V : (wt w a1 = 15 ∧ (inR a2 ∧ inR (h a1 9) ∧ (((h a1 9) < a2 → Q h) ∧ (¬ (h a1 9) < a2 → XV mX0_gather 17 [some (vR a0), some (vR a1), some (vI a2), some (vI 0)] [] w h Q))))) : XV mX0_gather 7 [some (vR a0), some (vR a1), some (vI a2), none] [] w h Q := by
  refine s_iload_n (pc' := 8) (x := a2) dX0_gather_7 rfl rfl ?_
  refine s_aload_n (pc' := 9) (x := a1) dX0_gather_8 rfl rfl ?_
  obtain ⟨z1, V⟩ := V
  refine s_callV (pc' := 12) (av := []) (a := a1) (sk := [vI a2]) (kc := 5) dX0_gather_9 ml_0_38 okX5_length oiX5_length (by decide) (NF := 12) rfl z1 rfl (Nat.le_of_ble_eq_true rfl) (Nat.le_refl 0) (Nat.le_refl 0) rfl (CI.eon (c_X5_length z1) ?_)
  obtain ⟨z2, z3, V⟩ := V
  obtain ⟨V4, V5⟩ := V
  refine s_icmp_gt (pc' := 15) (tgt := 54) dX0_gather_12 rfl rfl z2 z3 (fun c => ?_) (fun c => ?_)
  · have V := V4 c
    exact s_vret dX0_gather_54 rfl ⟨rfl, rfl, V⟩
  · have V := V5 c
    refine s_iconst (pc' := 16) dX0_gather_15 rfl ?_
    refine s_istore_n (pc' := 17) (ls' := [some (vR a0), some (vR a1), some (vI a2), some (vI 0)]) dX0_gather_16 (by decide) rfl rfl ?_
    exact V
set_option maxRecDepth 20000 in
theorem r_X0_gather_17 {w : WS} {h : AH} {Q : AH → Prop} {a0 a1 a2 a3 : Int} (V : (wt w a1 = 15 ∧ (inR a3 ∧ inR (h a1 8) ∧ (((h a1 8) ≤ a3 → XV mX0_gather 7 [some (vR a0), some (vR a1), some (vI (a2 + 1)), none] [] w h Q) ∧ (¬ (h a1 8) ≤ a3 → CI mX5_callsAt [vR a1, vI a3, vI a2] w h (fun x5 h4 => (inR x5 ∧ ((x5 = 0 → XV mX0_gather 17 [some (vR a0), some (vR a1), some (vI a2), some (vI (a3 + 1))] [] w h4 Q) ∧ (¬ x5 = 0 → (wt w a0 = 10 ∧ CV mX0_add [vR a0, vI a2, vI a2, vI 1, vI a3] w h4 (fun h8 => XV mX0_gather 17 [some (vR a0), some (vR a1), some (vI a2), some (vI (a3 + 1))] [] w h8 Q))))))))))) : XV mX0_gather 17 [some (vR a0), some (vR a1), some (vI a2), some (vI a3)] [] w h Q := by
  refine s_iload_n (pc' := 18) (x := a3) dX0_gather_17 rfl rfl ?_
  refine s_aload_n (pc' := 19) (x := a1) dX0_gather_18 rfl rfl ?_
  obtain ⟨z1, V⟩ := V
  refine s_callV (pc' := 22) (av := []) (a := a1) (sk := [vI a3]) (kc := 5) dX0_gather_19 ml_0_44 okX5_timers oiX5_timers (by decide) (NF := 12) rfl z1 rfl (Nat.le_of_ble_eq_true rfl) (Nat.le_refl 0) (Nat.le_refl 0) rfl (CI.eon (c_X5_timers z1) ?_)
  obtain ⟨z2, z3, V⟩ := V
  obtain ⟨V11, V12⟩ := V
  refine s_icmp_ge (pc' := 25) (tgt := 48) dX0_gather_22 rfl rfl z2 z3 (fun c => ?_) (fun c => ?_)
  · have V := V11 c
    refine s_iinc (pc' := 51) (ls' := [some (vR a0), some (vR a1), some (vI (a2 + 1)), some (vI a3)]) dX0_gather_48 rfl (by decide) rfl rfl ?_
    refine s_goto (tgt := 7) dX0_gather_51 rfl ?_
    refine s_drop 3 (ls' := [some (vR a0), some (vR a1), some (vI (a2 + 1)), none]) rfl ?_
    exact V
  · have V := V12 c
    refine s_aload_n (pc' := 26) (x := a1) dX0_gather_25 rfl rfl ?_
    refine s_iload_n (pc' := 27) (x := a3) dX0_gather_26 rfl rfl ?_
    refine s_iload_n (pc' := 28) (x := a2) dX0_gather_27 rfl rfl ?_
    refine s_callV (pc' := 31) (av := [vI a3, vI a2]) (a := a1) (sk := []) (kc := 5) dX0_gather_28 ml_0_46 okX5_callsAt oiX5_callsAt (by decide) (NF := 12) rfl z1 rfl (Nat.le_of_ble_eq_true rfl) (Nat.le_refl 0) (Nat.le_refl 0) rfl (CI.on V (fun x5 h4 V => ?_))
    obtain ⟨z6, V⟩ := V
    obtain ⟨V9, V10⟩ := V
    refine s_if_eq (pc' := 34) (tgt := 42) dX0_gather_31 rfl rfl z6 (fun c => ?_) (fun c => ?_)
    · have V := V9 c
      refine s_iinc (pc' := 45) (ls' := [some (vR a0), some (vR a1), some (vI a2), some (vI (a3 + 1))]) dX0_gather_42 rfl (by decide) rfl rfl ?_
      refine s_goto (tgt := 17) dX0_gather_45 rfl ?_
      exact V
    · have V := V10 c
      refine s_aload_n (pc' := 35) (x := a0) dX0_gather_34 rfl rfl ?_
      refine s_iload_n (pc' := 36) (x := a2) dX0_gather_35 rfl rfl ?_
      refine s_iload_n (pc' := 37) (x := a2) dX0_gather_36 rfl rfl ?_
      refine s_iconst (pc' := 38) dX0_gather_37 rfl ?_
      refine s_iload_n (pc' := 39) (x := a3) dX0_gather_38 rfl rfl ?_
      obtain ⟨z7, V⟩ := V
      refine s_callV (pc' := 42) (av := [vI a2, vI a2, vI 1, vI a3]) (a := a0) (sk := []) (kc := 0) dX0_gather_39 ml_0_50 okX0_add oiX0_add (by decide) (NF := 5) rfl z7 rfl (Nat.le_of_ble_eq_true rfl) (Nat.le_refl 0) (Nat.le_refl 0) rfl (CV.on V (fun h8 V => ?_))
      refine s_iinc (pc' := 45) (ls' := [some (vR a0), some (vR a1), some (vI a2), some (vI (a3 + 1))]) dX0_gather_42 rfl (by decide) rfl rfl ?_
      refine s_goto (tgt := 17) dX0_gather_45 rfl ?_
      exact V
theorem e_X0_layOut {w : WS} {h : AH} {Q : AH → Prop} {a0 a1 : Int} (X : XV mX0_layOut 0 [some (vR a0), some (vR a1), none, none] [] w h Q) : CV mX0_layOut [vR a0, vR a1] w h Q := CA.of (M := mX0_layOut) (by decide) rfl (Nat.le_of_ble_eq_true rfl) X
set_option maxRecDepth 20000 in
theorem r_X0_layOut_0 {w : WS} {h : AH} {Q : AH → Prop} {a0 a1 : Int} (V : XV mX0_layOut 2 [some (vR a0), some (vR a1), some (vI 0), none] [] w h Q) : XV mX0_layOut 0 [some (vR a0), some (vR a1), none, none] [] w h Q := by
  refine s_iconst (pc' := 1) dX0_layOut_0 rfl ?_
  refine s_istore_n (pc' := 2) (ls' := [some (vR a0), some (vR a1), some (vI 0), none]) dX0_layOut_1 (by decide) rfl rfl ?_
  exact V
set_option maxRecDepth 20000 in
theorem r_X0_layOut_2 {w : WS} {h : AH} {Q : AH → Prop} {a0 a1 a2 : Int} (V : (wt w a0 = 10 ∧ (inR a2 ∧ inR (h a0 4) ∧ (((h a0 4) ≤ a2 → Q h) ∧ (¬ (h a0 4) ≤ a2 → (wt w (wf w a0 3) = 1 ∧ 0 ≤ a2 ∧ a2 < wl w (wf w a0 3) ∧ (wt w a1 = 15 ∧ shSetup w a1 ∧ inR (h (wf w a0 3) a2) ∧ (0 ≤ h a1 8 ∧ h a1 8 ≤ 24) ∧ (∀ y11, y11 = (if 0 ≤ (h (wf w a0 3) a2) ∧ (h (wf w a0 3) a2) < h a1 8 then h (a1 + 5) (h (wf w a0 3) a2) else -1) → (wt w (wf w a0 0) = 1 ∧ a2 < wl w (wf w a0 0) ∧ CI mX5_slackOf [vR a1, vI y11] w h (fun x16 h15 => (inR ((h (wf w a0 0) a2) + x16) ∧ inR (h15 a1 9) ∧ (wt w (wf w a0 1) = 1 ∧ a2 < wl w (wf w a0 1) ∧ (∀ h21, h21 = st h15 (wf w a0 1) a2 (min ((h (wf w a0 0) a2) + x16) (h15 a1 9)) → CI mX5_weightOf [vR a1, vI y11] w h21 (fun x24 h23 => (wt w (wf w a0 2) = 1 ∧ a2 < wl w (wf w a0 2) ∧ (∀ h27, h27 = st h23 (wf w a0 2) a2 x24 → XV mX0_layOut 2 [some (vR a0), some (vR a1), some (vI (a2 + 1)), none] [] w h27 Q)))))))))))))))) : XV mX0_layOut 2 [some (vR a0), some (vR a1), some (vI a2), none] [] w h Q := by
  refine s_iload_n (pc' := 3) (x := a2) dX0_layOut_2 rfl rfl ?_
  refine s_aload_n (pc' := 4) (x := a0) dX0_layOut_3 rfl rfl ?_
  obtain ⟨z1, V⟩ := V
  refine s_get (pc' := 7) (v := vI (h a0 4)) (kc := 0) (i := 4) dX0_layOut_4 clX0 (by decide) fl_0_4 z1 (fun _ => rfl) rfl ?_
  obtain ⟨z2, z3, V⟩ := V
  obtain ⟨V29, V30⟩ := V
  refine s_icmp_ge (pc' := 10) (tgt := 63) dX0_layOut_7 rfl rfl z2 z3 (fun c => ?_) (fun c => ?_)
  · have V := V29 c
    exact s_vret dX0_layOut_63 rfl ⟨rfl, rfl, V⟩
  · have V := V30 c
    refine s_aload_n (pc' := 11) (x := a1) dX0_layOut_10 rfl rfl ?_
    refine s_aload_n (pc' := 12) (x := a0) dX0_layOut_11 rfl rfl ?_
    refine s_get (pc' := 15) (v := vR (wf w a0 3)) (kc := 0) (i := 3) dX0_layOut_12 clX0 (by decide) fl_0_3 z1 (fun _ => rfl) rfl ?_
    refine s_iload_n (pc' := 16) (x := a2) dX0_layOut_15 rfl rfl ?_
    obtain ⟨z4, z5, z6, V⟩ := V
    refine s_iald (pc' := 17) dX0_layOut_16 z4 z5 z6 rfl ?_
    obtain ⟨z7, z8, z9, z10, V⟩ := V
    refine s_callV (pc' := 20) (av := [vI (h (wf w a0 3) a2)]) (a := a1) (sk := []) (kc := 5) dX0_layOut_17 ml_0_54 okX5_kindOfTimer oiX5_kindOfTimer (by decide) (NF := 12) rfl z7 rfl (Nat.le_of_ble_eq_true rfl) (Nat.le_refl 0) (Nat.le_refl 0) rfl (CI.eon (c_X5_kindOfTimer z8 z9 z10) ?_)
    obtain ⟨y11, e12⟩ : ∃ q, q = (if 0 ≤ (h (wf w a0 3) a2) ∧ (h (wf w a0 3) a2) < h a1 8 then h (a1 + 5) (h (wf w a0 3) a2) else -1) := ⟨_, rfl⟩
    rw [← e12]
    have V := V y11 e12
    refine s_istore_n (pc' := 21) (ls' := [some (vR a0), some (vR a1), some (vI a2), some (vI y11)]) dX0_layOut_20 (by decide) rfl rfl ?_
    refine s_aload_n (pc' := 22) (x := a0) dX0_layOut_21 rfl rfl ?_
    refine s_get (pc' := 25) (v := vR (wf w a0 1)) (kc := 0) (i := 1) dX0_layOut_22 clX0 (by decide) fl_0_1 z1 (fun _ => rfl) rfl ?_
    refine s_iload_n (pc' := 26) (x := a2) dX0_layOut_25 rfl rfl ?_
    refine s_aload_n (pc' := 27) (x := a0) dX0_layOut_26 rfl rfl ?_
    refine s_get (pc' := 30) (v := vR (wf w a0 0)) (kc := 0) (i := 0) dX0_layOut_27 clX0 (by decide) fl_0_0 z1 (fun _ => rfl) rfl ?_
    refine s_iload_n (pc' := 31) (x := a2) dX0_layOut_30 rfl rfl ?_
    obtain ⟨z13, z14, V⟩ := V
    refine s_iald (pc' := 32) dX0_layOut_31 z13 z5 z14 rfl ?_
    refine s_aload_n (pc' := 33) (x := a1) dX0_layOut_32 rfl rfl ?_
    refine s_iload_n (pc' := 34) (x := y11) dX0_layOut_33 rfl rfl ?_
    refine s_callV (pc' := 37) (av := [vI y11]) (a := a1) (sk := [vI (h (wf w a0 0) a2), vI a2, vR (wf w a0 1)]) (kc := 5) dX0_layOut_34 ml_0_58 okX5_slackOf oiX5_slackOf (by decide) (NF := 12) rfl z7 rfl (Nat.le_of_ble_eq_true rfl) (Nat.le_refl 0) (Nat.le_refl 0) rfl (CI.on V (fun x16 h15 V => ?_))
    refine s_iadd (pc' := 38) dX0_layOut_37 rfl ?_
    refine s_aload_n (pc' := 39) (x := a1) dX0_layOut_38 rfl rfl ?_
    refine s_callV (pc' := 42) (av := []) (a := a1) (sk := [vI ((h (wf w a0 0) a2) + x16), vI a2, vR (wf w a0 1)]) (kc := 5) dX0_layOut_39 ml_0_38 okX5_length oiX5_length (by decide) (NF := 12) rfl z7 rfl (Nat.le_of_ble_eq_true rfl) (Nat.le_refl 0) (Nat.le_refl 0) rfl (CI.eon (c_X5_length z7) ?_)
    obtain ⟨z17, z18, V⟩ := V
    refine s_min (pc' := 45) dX0_layOut_42 ml_0_61 mst_min mini_Math mcode_min (by decide) (Nat.le_of_ble_eq_true rfl) z17 z18 rfl ?_
    obtain ⟨z19, z20, V⟩ := V
    refine s_iast (pc' := 46) dX0_layOut_45 z19 z5 z20 rfl ?_
    obtain ⟨h21, e22⟩ : ∃ q, q = st h15 (wf w a0 1) a2 (min ((h (wf w a0 0) a2) + x16) (h15 a1 9)) := ⟨_, rfl⟩
    rw [← e22]
    have V := V h21 e22
    refine s_aload_n (pc' := 47) (x := a0) dX0_layOut_46 rfl rfl ?_
    refine s_get (pc' := 50) (v := vR (wf w a0 2)) (kc := 0) (i := 2) dX0_layOut_47 clX0 (by decide) fl_0_2 z1 (fun _ => rfl) rfl ?_
    refine s_iload_n (pc' := 51) (x := a2) dX0_layOut_50 rfl rfl ?_
    refine s_aload_n (pc' := 52) (x := a1) dX0_layOut_51 rfl rfl ?_
    refine s_iload_n (pc' := 53) (x := y11) dX0_layOut_52 rfl rfl ?_
    refine s_callV (pc' := 56) (av := [vI y11]) (a := a1) (sk := [vI a2, vR (wf w a0 2)]) (kc := 5) dX0_layOut_53 ml_0_64 okX5_weightOf oiX5_weightOf (by decide) (NF := 12) rfl z7 rfl (Nat.le_of_ble_eq_true rfl) (Nat.le_refl 0) (Nat.le_refl 0) rfl (CI.on V (fun x24 h23 V => ?_))
    obtain ⟨z25, z26, V⟩ := V
    refine s_iast (pc' := 57) dX0_layOut_56 z25 z5 z26 rfl ?_
    obtain ⟨h27, e28⟩ : ∃ q, q = st h23 (wf w a0 2) a2 x24 := ⟨_, rfl⟩
    rw [← e28]
    have V := V h27 e28
    refine s_iinc (pc' := 60) (ls' := [some (vR a0), some (vR a1), some (vI (a2 + 1)), some (vI y11)]) dX0_layOut_57 rfl (by decide) rfl rfl ?_
    refine s_goto (tgt := 2) dX0_layOut_60 rfl ?_
    refine s_drop 3 (ls' := [some (vR a0), some (vR a1), some (vI (a2 + 1)), none]) rfl ?_
    exact V
theorem e_X0_firstDueAt {w : WS} {h : AH} {Q : Int → AH → Prop} {a0 a1 a2 : Int} (X : XI mX0_firstDueAt 0 [some (vR a0), some (vI a1), some (vI a2), none] [] w h Q) : CI mX0_firstDueAt [vR a0, vI a1, vI a2] w h Q := CA.of (M := mX0_firstDueAt) (by decide) rfl (Nat.le_of_ble_eq_true rfl) X
set_option maxRecDepth 20000 in
theorem r_X0_firstDueAt_0 {w : WS} {h : AH} {Q : Int → AH → Prop} {a0 a1 a2 : Int} (V : XI mX0_firstDueAt 2 [some (vR a0), some (vI a1), some (vI a2), some (vI 0)] [] w h Q) : XI mX0_firstDueAt 0 [some (vR a0), some (vI a1), some (vI a2), none] [] w h Q := by
  refine s_iconst (pc' := 1) dX0_firstDueAt_0 rfl ?_
  refine s_istore_n (pc' := 2) (ls' := [some (vR a0), some (vI a1), some (vI a2), some (vI 0)]) dX0_firstDueAt_1 (by decide) rfl rfl ?_
  exact V
set_option maxRecDepth 20000 in
theorem r_X0_firstDueAt_2 {w : WS} {h : AH} {Q : Int → AH → Prop} {a0 a1 a2 a3 : Int} (V : (wt w a0 = 10 ∧ (inR a3 ∧ inR (h a0 4) ∧ (((h a0 4) ≤ a3 → Q (-1) h) ∧ (¬ (h a0 4) ≤ a3 → (wt w (wf w a0 0) = 1 ∧ 0 ≤ a3 ∧ a3 < wl w (wf w a0 0) ∧ (inR (h (wf w a0 0) a3) ∧ inR a2 ∧ (((h (wf w a0 0) a3) ≤ a2 → XI mX0_firstDueAt 2 [some (vR a0), some (vI a1), some (vI a2), some (vI (a3 + 1))] [] w h Q) ∧ (¬ (h (wf w a0 0) a3) ≤ a2 → (wt w (wf w a0 1) = 1 ∧ a3 < wl w (wf w a0 1) ∧ (inR (h (wf w a0 1) a3) ∧ inR a1 ∧ ((¬ (h (wf w a0 1) a3) = a1 → XI mX0_firstDueAt 2 [some (vR a0), some (vI a1), some (vI a2), some (vI (a3 + 1))] [] w h Q) ∧ ((h (wf w a0 1) a3) = a1 → Q a3 h))))))))))))) : XI mX0_firstDueAt 2 [some (vR a0), some (vI a1), some (vI a2), some (vI a3)] [] w h Q := by
  refine s_iload_n (pc' := 3) (x := a3) dX0_firstDueAt_2 rfl rfl ?_
  refine s_aload_n (pc' := 4) (x := a0) dX0_firstDueAt_3 rfl rfl ?_
  obtain ⟨z1, V⟩ := V
  refine s_get (pc' := 7) (v := vI (h a0 4)) (kc := 0) (i := 4) dX0_firstDueAt_4 clX0 (by decide) fl_0_4 z1 (fun _ => rfl) rfl ?_
  obtain ⟨z2, z3, V⟩ := V
  obtain ⟨V17, V18⟩ := V
  refine s_icmp_ge (pc' := 10) (tgt := 38) dX0_firstDueAt_7 rfl rfl z2 z3 (fun c => ?_) (fun c => ?_)
  · have V := V17 c
    refine s_iconst (pc' := 39) dX0_firstDueAt_38 rfl ?_
    exact s_iret dX0_firstDueAt_39 rfl ⟨_, rfl, rfl, V⟩
  · have V := V18 c
    refine s_aload_n (pc' := 11) (x := a0) dX0_firstDueAt_10 rfl rfl ?_
    refine s_get (pc' := 14) (v := vR (wf w a0 0)) (kc := 0) (i := 0) dX0_firstDueAt_11 clX0 (by decide) fl_0_0 z1 (fun _ => rfl) rfl ?_
    refine s_iload_n (pc' := 15) (x := a3) dX0_firstDueAt_14 rfl rfl ?_
    obtain ⟨z4, z5, z6, V⟩ := V
    refine s_iald (pc' := 16) dX0_firstDueAt_15 z4 z5 z6 rfl ?_
    refine s_iload_n (pc' := 17) (x := a2) dX0_firstDueAt_16 rfl rfl ?_
    obtain ⟨z7, z8, V⟩ := V
    obtain ⟨V15, V16⟩ := V
    refine s_icmp_le (pc' := 20) (tgt := 32) dX0_firstDueAt_17 rfl rfl z7 z8 (fun c => ?_) (fun c => ?_)
    · have V := V15 c
      refine s_iinc (pc' := 35) (ls' := [some (vR a0), some (vI a1), some (vI a2), some (vI (a3 + 1))]) dX0_firstDueAt_32 rfl (by decide) rfl rfl ?_
      refine s_goto (tgt := 2) dX0_firstDueAt_35 rfl ?_
      exact V
    · have V := V16 c
      refine s_aload_n (pc' := 21) (x := a0) dX0_firstDueAt_20 rfl rfl ?_
      refine s_get (pc' := 24) (v := vR (wf w a0 1)) (kc := 0) (i := 1) dX0_firstDueAt_21 clX0 (by decide) fl_0_1 z1 (fun _ => rfl) rfl ?_
      refine s_iload_n (pc' := 25) (x := a3) dX0_firstDueAt_24 rfl rfl ?_
      obtain ⟨z9, z10, V⟩ := V
      refine s_iald (pc' := 26) dX0_firstDueAt_25 z9 z5 z10 rfl ?_
      refine s_iload_n (pc' := 27) (x := a1) dX0_firstDueAt_26 rfl rfl ?_
      obtain ⟨z11, z12, V⟩ := V
      obtain ⟨V13, V14⟩ := V
      refine s_icmp_ne (pc' := 30) (tgt := 32) dX0_firstDueAt_27 rfl rfl z11 z12 (fun c => ?_) (fun c => ?_)
      · have V := V13 c
        refine s_iinc (pc' := 35) (ls' := [some (vR a0), some (vI a1), some (vI a2), some (vI (a3 + 1))]) dX0_firstDueAt_32 rfl (by decide) rfl rfl ?_
        refine s_goto (tgt := 2) dX0_firstDueAt_35 rfl ?_
        exact V
      · have V := V14 c
        refine s_iload_n (pc' := 31) (x := a3) dX0_firstDueAt_30 rfl rfl ?_
        exact s_iret dX0_firstDueAt_31 rfl ⟨_, rfl, rfl, V⟩
theorem e_X0_waitsAt {w : WS} {h : AH} {Q : Int → AH → Prop} {a0 a1 a2 a3 : Int} (X : XI mX0_waitsAt 0 [some (vR a0), some (vI a1), some (vI a2), some (vI a3), none, none] [] w h Q) : CI mX0_waitsAt [vR a0, vI a1, vI a2, vI a3] w h Q := CA.of (M := mX0_waitsAt) (by decide) rfl (Nat.le_of_ble_eq_true rfl) X
set_option maxRecDepth 20000 in
theorem r_X0_waitsAt_0 {w : WS} {h : AH} {Q : Int → AH → Prop} {a0 a1 a2 a3 : Int} (V : (inR a2 ∧ XI mX0_waitsAt 10 [some (vR a0), some (vI a1), none, some (vI a3), some (vI 0), some (vI (max a2 0))] [] w h Q)) : XI mX0_waitsAt 0 [some (vR a0), some (vI a1), some (vI a2), some (vI a3), none, none] [] w h Q := by
  refine s_iconst (pc' := 1) dX0_waitsAt_0 rfl ?_
  refine s_istore (pc' := 3) (ls' := [some (vR a0), some (vI a1), some (vI a2), some (vI a3), some (vI 0), none]) dX0_waitsAt_1 (by decide) rfl rfl ?_
  refine s_iload_n (pc' := 4) (x := a2) dX0_waitsAt_3 rfl rfl ?_
  refine s_iconst (pc' := 5) dX0_waitsAt_4 rfl ?_
  obtain ⟨z1, V⟩ := V
  refine s_max (pc' := 8) dX0_waitsAt_5 ml_0_9 mst_max mini_Math mcode_max (by decide) (Nat.le_of_ble_eq_true rfl) z1 (by decide) rfl ?_
  refine s_istore (pc' := 10) (ls' := [some (vR a0), some (vI a1), some (vI a2), some (vI a3), some (vI 0), some (vI (max a2 0))]) dX0_waitsAt_8 (by decide) rfl rfl ?_
  refine s_drop 2 (ls' := [some (vR a0), some (vI a1), none, some (vI a3), some (vI 0), some (vI (max a2 0))]) rfl ?_
  exact V
set_option maxRecDepth 20000 in
theorem r_X0_waitsAt_10 {w : WS} {h : AH} {Q : Int → AH → Prop} {a0 a1 a3 a4 a5 : Int} (V : (inR a5 ∧ inR a3 ∧ ((a3 ≤ a5 → Q a4 h) ∧ (¬ a3 ≤ a5 → (wt w a0 = 10 ∧ (inR (h a0 4) ∧ (((h a0 4) ≤ a5 → Q a4 h) ∧ (¬ (h a0 4) ≤ a5 → (wt w (wf w a0 2) = 1 ∧ 0 ≤ a5 ∧ a5 < wl w (wf w a0 2) ∧ (wt w (wf w a0 0) = 1 ∧ a5 < wl w (wf w a0 0) ∧ (∀ y10, y10 = (a4 + ((h (wf w a0 2) a5) * (a1 - (h (wf w a0 0) a5)))) → XI mX0_waitsAt 10 [some (vR a0), some (vI a1), none, some (vI a3), some (vI y10), some (vI (a5 + 1))] [] w h Q))))))))))) : XI mX0_waitsAt 10 [some (vR a0), some (vI a1), none, some (vI a3), some (vI a4), some (vI a5)] [] w h Q := by
  refine s_iload (pc' := 12) (x := a5) dX0_waitsAt_10 rfl rfl ?_
  refine s_iload_n (pc' := 13) (x := a3) dX0_waitsAt_12 rfl rfl ?_
  obtain ⟨z1, z2, V⟩ := V
  obtain ⟨V14, V15⟩ := V
  refine s_icmp_ge (pc' := 16) (tgt := 53) dX0_waitsAt_13 rfl rfl z1 z2 (fun c => ?_) (fun c => ?_)
  · have V := V14 c
    refine s_iload (pc' := 55) (x := a4) dX0_waitsAt_53 rfl rfl ?_
    exact s_iret dX0_waitsAt_55 rfl ⟨_, rfl, rfl, V⟩
  · have V := V15 c
    refine s_iload (pc' := 18) (x := a5) dX0_waitsAt_16 rfl rfl ?_
    refine s_aload_n (pc' := 19) (x := a0) dX0_waitsAt_18 rfl rfl ?_
    obtain ⟨z3, V⟩ := V
    refine s_get (pc' := 22) (v := vI (h a0 4)) (kc := 0) (i := 4) dX0_waitsAt_19 clX0 (by decide) fl_0_4 z3 (fun _ => rfl) rfl ?_
    obtain ⟨z4, V⟩ := V
    obtain ⟨V12, V13⟩ := V
    refine s_icmp_ge (pc' := 25) (tgt := 53) dX0_waitsAt_22 rfl rfl z1 z4 (fun c => ?_) (fun c => ?_)
    · have V := V12 c
      refine s_iload (pc' := 55) (x := a4) dX0_waitsAt_53 rfl rfl ?_
      exact s_iret dX0_waitsAt_55 rfl ⟨_, rfl, rfl, V⟩
    · have V := V13 c
      refine s_iload (pc' := 27) (x := a4) dX0_waitsAt_25 rfl rfl ?_
      refine s_aload_n (pc' := 28) (x := a0) dX0_waitsAt_27 rfl rfl ?_
      refine s_get (pc' := 31) (v := vR (wf w a0 2)) (kc := 0) (i := 2) dX0_waitsAt_28 clX0 (by decide) fl_0_2 z3 (fun _ => rfl) rfl ?_
      refine s_iload (pc' := 33) (x := a5) dX0_waitsAt_31 rfl rfl ?_
      obtain ⟨z5, z6, z7, V⟩ := V
      refine s_iald (pc' := 34) dX0_waitsAt_33 z5 z6 z7 rfl ?_
      refine s_iload_n (pc' := 35) (x := a1) dX0_waitsAt_34 rfl rfl ?_
      refine s_aload_n (pc' := 36) (x := a0) dX0_waitsAt_35 rfl rfl ?_
      refine s_get (pc' := 39) (v := vR (wf w a0 0)) (kc := 0) (i := 0) dX0_waitsAt_36 clX0 (by decide) fl_0_0 z3 (fun _ => rfl) rfl ?_
      refine s_iload (pc' := 41) (x := a5) dX0_waitsAt_39 rfl rfl ?_
      obtain ⟨z8, z9, V⟩ := V
      refine s_iald (pc' := 42) dX0_waitsAt_41 z8 z6 z9 rfl ?_
      refine s_isub (pc' := 43) dX0_waitsAt_42 rfl ?_
      refine s_imul (pc' := 44) dX0_waitsAt_43 rfl ?_
      refine s_iadd (pc' := 45) dX0_waitsAt_44 rfl ?_
      obtain ⟨y10, e11⟩ : ∃ q, q = (a4 + ((h (wf w a0 2) a5) * (a1 - (h (wf w a0 0) a5)))) := ⟨_, rfl⟩
      rw [← e11]
      have V := V y10 e11
      refine s_istore (pc' := 47) (ls' := [some (vR a0), some (vI a1), none, some (vI a3), some (vI y10), some (vI a5)]) dX0_waitsAt_45 (by decide) rfl rfl ?_
      refine s_iinc (pc' := 50) (ls' := [some (vR a0), some (vI a1), none, some (vI a3), some (vI y10), some (vI (a5 + 1))]) dX0_waitsAt_47 rfl (by decide) rfl rfl ?_
      refine s_goto (tgt := 10) dX0_waitsAt_50 rfl ?_
      exact V
theorem e_X0_leastLatest {w : WS} {h : AH} {Q : Int → AH → Prop} {a0 a1 a2 : Int} (X : XI mX0_leastLatest 0 [some (vR a0), some (vI a1), some (vI a2), none, none] [] w h Q) : CI mX0_leastLatest [vR a0, vI a1, vI a2] w h Q := CA.of (M := mX0_leastLatest) (by decide) rfl (Nat.le_of_ble_eq_true rfl) X
set_option maxRecDepth 20000 in
theorem r_X0_leastLatest_0 {w : WS} {h : AH} {Q : Int → AH → Prop} {a0 a1 a2 : Int} (V : (inR a1 ∧ XI mX0_leastLatest 9 [some (vR a0), none, some (vI a2), some (vI (-1)), some (vI (max a1 0))] [] w h Q)) : XI mX0_leastLatest 0 [some (vR a0), some (vI a1), some (vI a2), none, none] [] w h Q := by
  refine s_iconst (pc' := 1) dX0_leastLatest_0 rfl ?_
  refine s_istore_n (pc' := 2) (ls' := [some (vR a0), some (vI a1), some (vI a2), some (vI (-1)), none]) dX0_leastLatest_1 (by decide) rfl rfl ?_
  refine s_iload_n (pc' := 3) (x := a1) dX0_leastLatest_2 rfl rfl ?_
  refine s_iconst (pc' := 4) dX0_leastLatest_3 rfl ?_
  obtain ⟨z1, V⟩ := V
  refine s_max (pc' := 7) dX0_leastLatest_4 ml_0_9 mst_max mini_Math mcode_max (by decide) (Nat.le_of_ble_eq_true rfl) z1 (by decide) rfl ?_
  refine s_istore (pc' := 9) (ls' := [some (vR a0), some (vI a1), some (vI a2), some (vI (-1)), some (vI (max a1 0))]) dX0_leastLatest_7 (by decide) rfl rfl ?_
  refine s_drop 1 (ls' := [some (vR a0), none, some (vI a2), some (vI (-1)), some (vI (max a1 0))]) rfl ?_
  exact V
set_option maxRecDepth 20000 in
theorem r_X0_leastLatest_9 {w : WS} {h : AH} {Q : Int → AH → Prop} {a0 a2 a3 a4 : Int} (V : (inR a4 ∧ inR a2 ∧ ((a2 ≤ a4 → Q a3 h) ∧ (¬ a2 ≤ a4 → (wt w a0 = 10 ∧ (inR (h a0 4) ∧ (((h a0 4) ≤ a4 → Q a3 h) ∧ (¬ (h a0 4) ≤ a4 → (inR a3 ∧ ((a3 = (-1) → (wt w (wf w a0 1) = 1 ∧ 0 ≤ a4 ∧ a4 < wl w (wf w a0 1) ∧ XI mX0_leastLatest 9 [some (vR a0), none, some (vI a2), some (vI (h (wf w a0 1) a4)), some (vI (a4 + 1))] [] w h Q)) ∧ (¬ a3 = (-1) → (wt w (wf w a0 1) = 1 ∧ 0 ≤ a4 ∧ a4 < wl w (wf w a0 1) ∧ (inR (h (wf w a0 1) a4) ∧ ((a3 ≤ (h (wf w a0 1) a4) → XI mX0_leastLatest 9 [some (vR a0), none, some (vI a2), some (vI a3), some (vI (a4 + 1))] [] w h Q) ∧ (¬ a3 ≤ (h (wf w a0 1) a4) → XI mX0_leastLatest 9 [some (vR a0), none, some (vI a2), some (vI (h (wf w a0 1) a4)), some (vI (a4 + 1))] [] w h Q))))))))))))))) : XI mX0_leastLatest 9 [some (vR a0), none, some (vI a2), some (vI a3), some (vI a4)] [] w h Q := by
  refine s_iload (pc' := 11) (x := a4) dX0_leastLatest_9 rfl rfl ?_
  refine s_iload_n (pc' := 12) (x := a2) dX0_leastLatest_11 rfl rfl ?_
  obtain ⟨z1, z2, V⟩ := V
  obtain ⟨V19, V20⟩ := V
  refine s_icmp_ge (pc' := 15) (tgt := 54) dX0_leastLatest_12 rfl rfl z1 z2 (fun c => ?_) (fun c => ?_)
  · have V := V19 c
    refine s_iload_n (pc' := 55) (x := a3) dX0_leastLatest_54 rfl rfl ?_
    exact s_iret dX0_leastLatest_55 rfl ⟨_, rfl, rfl, V⟩
  · have V := V20 c
    refine s_iload (pc' := 17) (x := a4) dX0_leastLatest_15 rfl rfl ?_
    refine s_aload_n (pc' := 18) (x := a0) dX0_leastLatest_17 rfl rfl ?_
    obtain ⟨z3, V⟩ := V
    refine s_get (pc' := 21) (v := vI (h a0 4)) (kc := 0) (i := 4) dX0_leastLatest_18 clX0 (by decide) fl_0_4 z3 (fun _ => rfl) rfl ?_
    obtain ⟨z4, V⟩ := V
    obtain ⟨V17, V18⟩ := V
    refine s_icmp_ge (pc' := 24) (tgt := 54) dX0_leastLatest_21 rfl rfl z1 z4 (fun c => ?_) (fun c => ?_)
    · have V := V17 c
      refine s_iload_n (pc' := 55) (x := a3) dX0_leastLatest_54 rfl rfl ?_
      exact s_iret dX0_leastLatest_55 rfl ⟨_, rfl, rfl, V⟩
    · have V := V18 c
      refine s_iload_n (pc' := 25) (x := a3) dX0_leastLatest_24 rfl rfl ?_
      refine s_iconst (pc' := 26) dX0_leastLatest_25 rfl ?_
      obtain ⟨z5, V⟩ := V
      obtain ⟨V15, V16⟩ := V
      refine s_icmp_eq (pc' := 29) (tgt := 40) dX0_leastLatest_26 rfl rfl z5 (by decide) (fun c => ?_) (fun c => ?_)
      · have V := V15 c
        refine s_aload_n (pc' := 41) (x := a0) dX0_leastLatest_40 rfl rfl ?_
        refine s_get (pc' := 44) (v := vR (wf w a0 1)) (kc := 0) (i := 1) dX0_leastLatest_41 clX0 (by decide) fl_0_1 z3 (fun _ => rfl) rfl ?_
        refine s_iload (pc' := 46) (x := a4) dX0_leastLatest_44 rfl rfl ?_
        obtain ⟨z6, z7, z8, V⟩ := V
        refine s_iald (pc' := 47) dX0_leastLatest_46 z6 z7 z8 rfl ?_
        refine s_istore_n (pc' := 48) (ls' := [some (vR a0), none, some (vI a2), some (vI (h (wf w a0 1) a4)), some (vI a4)]) dX0_leastLatest_47 (by decide) rfl rfl ?_
        refine s_iinc (pc' := 51) (ls' := [some (vR a0), none, some (vI a2), some (vI (h (wf w a0 1) a4)), some (vI (a4 + 1))]) dX0_leastLatest_48 rfl (by decide) rfl rfl ?_
        refine s_goto (tgt := 9) dX0_leastLatest_51 rfl ?_
        exact V
      · have V := V16 c
        refine s_aload_n (pc' := 30) (x := a0) dX0_leastLatest_29 rfl rfl ?_
        refine s_get (pc' := 33) (v := vR (wf w a0 1)) (kc := 0) (i := 1) dX0_leastLatest_30 clX0 (by decide) fl_0_1 z3 (fun _ => rfl) rfl ?_
        refine s_iload (pc' := 35) (x := a4) dX0_leastLatest_33 rfl rfl ?_
        obtain ⟨z9, z10, z11, V⟩ := V
        refine s_iald (pc' := 36) dX0_leastLatest_35 z9 z10 z11 rfl ?_
        refine s_iload_n (pc' := 37) (x := a3) dX0_leastLatest_36 rfl rfl ?_
        obtain ⟨z12, V⟩ := V
        obtain ⟨V13, V14⟩ := V
        refine s_icmp_ge (pc' := 40) (tgt := 48) dX0_leastLatest_37 rfl rfl z12 z5 (fun c => ?_) (fun c => ?_)
        · have V := V13 c
          refine s_iinc (pc' := 51) (ls' := [some (vR a0), none, some (vI a2), some (vI a3), some (vI (a4 + 1))]) dX0_leastLatest_48 rfl (by decide) rfl rfl ?_
          refine s_goto (tgt := 9) dX0_leastLatest_51 rfl ?_
          exact V
        · have V := V14 c
          refine s_aload_n (pc' := 41) (x := a0) dX0_leastLatest_40 rfl rfl ?_
          refine s_get (pc' := 44) (v := vR (wf w a0 1)) (kc := 0) (i := 1) dX0_leastLatest_41 clX0 (by decide) fl_0_1 z3 (fun _ => rfl) rfl ?_
          refine s_iload (pc' := 46) (x := a4) dX0_leastLatest_44 rfl rfl ?_
          refine s_iald (pc' := 47) dX0_leastLatest_46 z9 z10 z11 rfl ?_
          refine s_istore_n (pc' := 48) (ls' := [some (vR a0), none, some (vI a2), some (vI (h (wf w a0 1) a4)), some (vI a4)]) dX0_leastLatest_47 (by decide) rfl rfl ?_
          refine s_iinc (pc' := 51) (ls' := [some (vR a0), none, some (vI a2), some (vI (h (wf w a0 1) a4)), some (vI (a4 + 1))]) dX0_leastLatest_48 rfl (by decide) rfl rfl ?_
          refine s_goto (tgt := 9) dX0_leastLatest_51 rfl ?_
          exact V
theorem e_X0_wantWake {w : WS} {h : AH} {Q : Int → AH → Prop} {a0 a1 a2 a3 a4 a5 : Int} (X : XI mX0_wantWake 0 [some (vR a0), some (vI a1), some (vI a2), some (vI a3), some (vI a4), some (vI a5)] [] w h Q) : CI mX0_wantWake [vR a0, vI a1, vI a2, vI a3, vI a4, vI a5] w h Q := CA.of (M := mX0_wantWake) (by decide) rfl (Nat.le_of_ble_eq_true rfl) X
set_option maxRecDepth 20000 in
theorem r_X0_wantWake_0 {w : WS} {h : AH} {Q : Int → AH → Prop} {a0 a1 a2 a3 a4 a5 : Int} (V : (inR a4 ∧ inR a5 ∧ ((a4 < a5 → (inR a1 ∧ ((a1 = 0 → Q 1 h) ∧ (¬ a1 = 0 → (wt w a0 = 10 ∧ CI mX0_leastLatest [vR a0, vI a4, vI a5] w h (fun x6 h5 => (inR x6 ∧ inR a2 ∧ ((¬ x6 = a2 → ((¬ a1 = 2 → Q 0 h5) ∧ (a1 = 2 → CI mX0_waitsAt [vR a0, vI (a2 + 1), vI a4, vI a5] w h5 (fun x10 h9 => (inR x10 ∧ inR a3 ∧ ((x10 ≤ a3 → Q 0 h9) ∧ (¬ x10 ≤ a3 → Q 1 h9))))))) ∧ (x6 = a2 → Q 1 h5))))))))) ∧ (¬ a4 < a5 → Q 0 h)))) : XI mX0_wantWake 0 [some (vR a0), some (vI a1), some (vI a2), some (vI a3), some (vI a4), some (vI a5)] [] w h Q := by
  refine s_iload (pc' := 2) (x := a4) dX0_wantWake_0 rfl rfl ?_
  refine s_iload (pc' := 4) (x := a5) dX0_wantWake_2 rfl rfl ?_
  obtain ⟨z1, z2, V⟩ := V
  obtain ⟨V21, V22⟩ := V
  refine s_icmp_lt (pc' := 7) (tgt := 9) dX0_wantWake_4 rfl rfl z1 z2 (fun c => ?_) (fun c => ?_)
  · have V := V21 c
    refine s_iload_n (pc' := 10) (x := a1) dX0_wantWake_9 rfl rfl ?_
    obtain ⟨z3, V⟩ := V
    obtain ⟨V19, V20⟩ := V
    refine s_if_eq (pc' := 13) (tgt := 25) dX0_wantWake_10 rfl rfl z3 (fun c => ?_) (fun c => ?_)
    · have V := V19 c
      refine s_iconst (pc' := 26) dX0_wantWake_25 rfl ?_
      exact s_zret dX0_wantWake_26 rfl (by decide) ⟨_, rfl, rfl, V⟩
    · have V := V20 c
      refine s_aload_n (pc' := 14) (x := a0) dX0_wantWake_13 rfl rfl ?_
      refine s_iload (pc' := 16) (x := a4) dX0_wantWake_14 rfl rfl ?_
      refine s_iload (pc' := 18) (x := a5) dX0_wantWake_16 rfl rfl ?_
      obtain ⟨z4, V⟩ := V
      refine s_callV (pc' := 21) (av := [vI a4, vI a5]) (a := a0) (sk := []) (kc := 0) dX0_wantWake_18 ml_0_67 okX0_leastLatest oiX0_leastLatest (by decide) (NF := 5) rfl z4 rfl (Nat.le_of_ble_eq_true rfl) (Nat.le_refl 0) (Nat.le_refl 0) rfl (CI.on V (fun x6 h5 V => ?_))
      refine s_iload_n (pc' := 22) (x := a2) dX0_wantWake_21 rfl rfl ?_
      obtain ⟨z7, z8, V⟩ := V
      obtain ⟨V17, V18⟩ := V
      refine s_icmp_ne (pc' := 25) (tgt := 27) dX0_wantWake_22 rfl rfl z7 z8 (fun c => ?_) (fun c => ?_)
      · have V := V17 c
        refine s_iload_n (pc' := 28) (x := a1) dX0_wantWake_27 rfl rfl ?_
        refine s_iconst (pc' := 29) dX0_wantWake_28 rfl ?_
        obtain ⟨V15, V16⟩ := V
        refine s_icmp_ne (pc' := 32) (tgt := 51) dX0_wantWake_29 rfl rfl z3 (by decide) (fun c => ?_) (fun c => ?_)
        · have V := V15 c
          refine s_iconst (pc' := 52) dX0_wantWake_51 rfl ?_
          exact s_zret dX0_wantWake_52 rfl (by decide) ⟨_, rfl, rfl, V⟩
        · have V := V16 c
          refine s_aload_n (pc' := 33) (x := a0) dX0_wantWake_32 rfl rfl ?_
          refine s_iload_n (pc' := 34) (x := a2) dX0_wantWake_33 rfl rfl ?_
          refine s_iconst (pc' := 35) dX0_wantWake_34 rfl ?_
          refine s_iadd (pc' := 36) dX0_wantWake_35 rfl ?_
          refine s_iload (pc' := 38) (x := a4) dX0_wantWake_36 rfl rfl ?_
          refine s_iload (pc' := 40) (x := a5) dX0_wantWake_38 rfl rfl ?_
          refine s_callV (pc' := 43) (av := [vI (a2 + 1), vI a4, vI a5]) (a := a0) (sk := []) (kc := 0) dX0_wantWake_40 ml_0_70 okX0_waitsAt oiX0_waitsAt (by decide) (NF := 5) rfl z4 rfl (Nat.le_of_ble_eq_true rfl) (Nat.le_refl 0) (Nat.le_refl 0) rfl (CI.on V (fun x10 h9 V => ?_))
          refine s_iload_n (pc' := 44) (x := a3) dX0_wantWake_43 rfl rfl ?_
          obtain ⟨z11, z12, V⟩ := V
          obtain ⟨V13, V14⟩ := V
          refine s_icmp_le (pc' := 47) (tgt := 51) dX0_wantWake_44 rfl rfl z11 z12 (fun c => ?_) (fun c => ?_)
          · have V := V13 c
            refine s_iconst (pc' := 52) dX0_wantWake_51 rfl ?_
            exact s_zret dX0_wantWake_52 rfl (by decide) ⟨_, rfl, rfl, V⟩
          · have V := V14 c
            refine s_iconst (pc' := 48) dX0_wantWake_47 rfl ?_
            refine s_goto (tgt := 52) dX0_wantWake_48 rfl ?_
            exact s_zret dX0_wantWake_52 rfl (by decide) ⟨_, rfl, rfl, V⟩
      · have V := V18 c
        refine s_iconst (pc' := 26) dX0_wantWake_25 rfl ?_
        exact s_zret dX0_wantWake_26 rfl (by decide) ⟨_, rfl, rfl, V⟩
  · have V := V22 c
    refine s_iconst (pc' := 8) dX0_wantWake_7 rfl ?_
    exact s_zret dX0_wantWake_8 rfl (by decide) ⟨_, rfl, rfl, V⟩
