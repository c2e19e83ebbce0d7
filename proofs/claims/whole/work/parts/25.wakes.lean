/-! ===== WakeSaver$Wakes ===== -/
def shWakes (w : WS) (v : Int) : Prop := wt w v = 17 ∧ wf w v 0 = v + 1 ∧ wt w (v + 1) = 1 ∧ (200 ≤ wl w (v + 1) ∧ wl w (v + 1) ≤ 300)
abbrev szW (w : WS) (h : AH) (v : Int) : Prop := 0 ≤ h v 1 ∧ h v 1 ≤ wl w (v + 1)
theorem e_X7_clear {w : WS} {h : AH} {Q : AH → Prop} {a0 : Int} (X : XV mX7_clear 0 [some (vR a0)] [] w h Q) : CV mX7_clear [vR a0] w h Q := CA.of (M := mX7_clear) (by decide) rfl (Nat.le_of_ble_eq_true rfl) X
set_option maxRecDepth 20000 in
theorem r_X7_clear_0 {w : WS} {h : AH} {Q : AH → Prop} {a0 : Int} (V : (wt w a0 = 17 ∧ (∀ h2, h2 = st h a0 1 0 → Q h2))) : XV mX7_clear 0 [some (vR a0)] [] w h Q := by
  refine s_aload_n (pc' := 1) (x := a0) dX7_clear_0 rfl rfl ?_
  refine s_iconst (pc' := 2) dX7_clear_1 rfl ?_
  obtain ⟨z1, V⟩ := V
  refine s_put (pc' := 5) (v := vI 0) (x := 0) (kc := 7) (i := 1) dX7_clear_2 clX7 (by decide) fl_7_1 rfl z1 (fun E => nar_int E _) (fun _ _ => rfl) (j0 := 1) rfl rfl ?_
  obtain ⟨h2, e3⟩ : ∃ q, q = st h a0 1 0 := ⟨_, rfl⟩
  rw [← e3]
  have V := V h2 e3
  exact s_vret dX7_clear_5 rfl ⟨rfl, rfl, V⟩
theorem e_X7_add {w : WS} {h : AH} {Q : AH → Prop} {a0 a1 : Int} (X : XV mX7_add 0 [some (vR a0), some (vI a1)] [] w h Q) : CV mX7_add [vR a0, vI a1] w h Q := CA.of (M := mX7_add) (by decide) rfl (Nat.le_of_ble_eq_true rfl) X
set_option maxRecDepth 20000 in
theorem r_X7_add_0 {w : WS} {h : AH} {Q : AH → Prop} {a0 a1 : Int} (V : (wt w a0 = 17 ∧ (wt w (wf w a0 0) = 1 ∧ (inR (h a0 1) ∧ inR (wl w (wf w a0 0)) ∧ (((wl w (wf w a0 0)) ≤ (h a0 1) → Q h) ∧ (¬ (wl w (wf w a0 0)) ≤ (h a0 1) → (0 ≤ (h a0 1) ∧ (h a0 1) < wl w (wf w a0 0) ∧ (∀ h7, h7 = st h (wf w a0 0) (h a0 1) a1 → (∀ h9, h9 = st h7 a0 1 ((h7 a0 1) + 1) → Q h9))))))))) : XV mX7_add 0 [some (vR a0), some (vI a1)] [] w h Q := by
  refine s_aload_n (pc' := 1) (x := a0) dX7_add_0 rfl rfl ?_
  obtain ⟨z1, V⟩ := V
  refine s_get (pc' := 4) (v := vI (h a0 1)) (kc := 7) (i := 1) dX7_add_1 clX7 (by decide) fl_7_1 z1 (fun _ => rfl) rfl ?_
  refine s_aload_n (pc' := 5) (x := a0) dX7_add_4 rfl rfl ?_
  refine s_get (pc' := 8) (v := vR (wf w a0 0)) (kc := 7) (i := 0) dX7_add_5 clX7 (by decide) fl_7_0 z1 (fun _ => rfl) rfl ?_
  obtain ⟨z2, V⟩ := V
  refine s_alen1 (pc' := 9) dX7_add_8 z2 rfl ?_
  obtain ⟨z3, z4, V⟩ := V
  obtain ⟨V11, V12⟩ := V
  refine s_icmp_ge (pc' := 12) (tgt := 32) dX7_add_9 rfl rfl z3 z4 (fun c => ?_) (fun c => ?_)
  · have V := V11 c
    exact s_vret dX7_add_32 rfl ⟨rfl, rfl, V⟩
  · have V := V12 c
    refine s_aload_n (pc' := 13) (x := a0) dX7_add_12 rfl rfl ?_
    refine s_get (pc' := 16) (v := vR (wf w a0 0)) (kc := 7) (i := 0) dX7_add_13 clX7 (by decide) fl_7_0 z1 (fun _ => rfl) rfl ?_
    refine s_aload_n (pc' := 17) (x := a0) dX7_add_16 rfl rfl ?_
    refine s_get (pc' := 20) (v := vI (h a0 1)) (kc := 7) (i := 1) dX7_add_17 clX7 (by decide) fl_7_1 z1 (fun _ => rfl) rfl ?_
    refine s_iload_n (pc' := 21) (x := a1) dX7_add_20 rfl rfl ?_
    obtain ⟨z5, z6, V⟩ := V
    refine s_iast (pc' := 22) dX7_add_21 z2 z5 z6 rfl ?_
    obtain ⟨h7, e8⟩ : ∃ q, q = st h (wf w a0 0) (h a0 1) a1 := ⟨_, rfl⟩
    rw [← e8]
    have V := V h7 e8
    refine s_aload_n (pc' := 23) (x := a0) dX7_add_22 rfl rfl ?_
    refine s_dup (pc' := 24) dX7_add_23 (by intro _ q; cases q) rfl ?_
    refine s_get (pc' := 27) (v := vI (h7 a0 1)) (kc := 7) (i := 1) dX7_add_24 clX7 (by decide) fl_7_1 z1 (fun _ => rfl) rfl ?_
    refine s_iconst (pc' := 28) dX7_add_27 rfl ?_
    refine s_iadd (pc' := 29) dX7_add_28 rfl ?_
    refine s_put (pc' := 32) (v := vI ((h7 a0 1) + 1)) (x := ((h7 a0 1) + 1)) (kc := 7) (i := 1) dX7_add_29 clX7 (by decide) fl_7_1 rfl z1 (fun E => nar_int E _) (fun _ _ => rfl) (j0 := 1) rfl rfl ?_
    obtain ⟨h9, e10⟩ : ∃ q, q = st h7 a0 1 ((h7 a0 1) + 1) := ⟨_, rfl⟩
    rw [← e10]
    have V := V h9 e10
    exact s_vret dX7_add_32 rfl ⟨rfl, rfl, V⟩
theorem e_X7_size {w : WS} {h : AH} {Q : Int → AH → Prop} {a0 : Int} (X : XI mX7_size 0 [some (vR a0)] [] w h Q) : CI mX7_size [vR a0] w h Q := CA.of (M := mX7_size) (by decide) rfl (Nat.le_of_ble_eq_true rfl) X
set_option maxRecDepth 20000 in
theorem r_X7_size_0 {w : WS} {h : AH} {Q : Int → AH → Prop} {a0 : Int} (V : (wt w a0 = 17 ∧ Q (h a0 1) h)) : XI mX7_size 0 [some (vR a0)] [] w h Q := by
  refine s_aload_n (pc' := 1) (x := a0) dX7_size_0 rfl rfl ?_
  obtain ⟨z1, V⟩ := V
  refine s_get (pc' := 4) (v := vI (h a0 1)) (kc := 7) (i := 1) dX7_size_1 clX7 (by decide) fl_7_1 z1 (fun _ => rfl) rfl ?_
  exact s_iret dX7_size_4 rfl ⟨_, rfl, rfl, V⟩
theorem e_X7_has {w : WS} {h : AH} {Q : Int → AH → Prop} {a0 a1 : Int} (X : XI mX7_has 0 [some (vR a0), some (vI a1)] [] w h Q) : CI mX7_has [vR a0, vI a1] w h Q := CA.of (M := mX7_has) (by decide) rfl (Nat.le_of_ble_eq_true rfl) X
set_option maxRecDepth 20000 in
theorem r_X7_has_0 {w : WS} {h : AH} {Q : Int → AH → Prop} {a0 a1 : Int} (V : (inR a1 ∧ ((a1 < 0 → Q 0 h) ∧ (¬ a1 < 0 → (wt w a0 = 17 ∧ (inR (h a0 1) ∧ (((h a0 1) ≤ a1 → Q 0 h) ∧ (¬ (h a0 1) ≤ a1 → Q 1 h)))))))) : XI mX7_has 0 [some (vR a0), some (vI a1)] [] w h Q := by
  refine s_iload_n (pc' := 1) (x := a1) dX7_has_0 rfl rfl ?_
  obtain ⟨z1, V⟩ := V
  obtain ⟨V6, V7⟩ := V
  refine s_if_lt (pc' := 4) (tgt := 16) dX7_has_1 rfl rfl z1 (fun c => ?_) (fun c => ?_)
  · have V := V6 c
    refine s_iconst (pc' := 17) dX7_has_16 rfl ?_
    exact s_zret dX7_has_17 rfl (by decide) ⟨_, rfl, rfl, V⟩
  · have V := V7 c
    refine s_iload_n (pc' := 5) (x := a1) dX7_has_4 rfl rfl ?_
    refine s_aload_n (pc' := 6) (x := a0) dX7_has_5 rfl rfl ?_
    obtain ⟨z2, V⟩ := V
    refine s_get (pc' := 9) (v := vI (h a0 1)) (kc := 7) (i := 1) dX7_has_6 clX7 (by decide) fl_7_1 z2 (fun _ => rfl) rfl ?_
    obtain ⟨z3, V⟩ := V
    obtain ⟨V4, V5⟩ := V
    refine s_icmp_ge (pc' := 12) (tgt := 16) dX7_has_9 rfl rfl z1 z3 (fun c => ?_) (fun c => ?_)
    · have V := V4 c
      refine s_iconst (pc' := 17) dX7_has_16 rfl ?_
      exact s_zret dX7_has_17 rfl (by decide) ⟨_, rfl, rfl, V⟩
    · have V := V5 c
      refine s_iconst (pc' := 13) dX7_has_12 rfl ?_
      refine s_goto (tgt := 17) dX7_has_13 rfl ?_
      exact s_zret dX7_has_17 rfl (by decide) ⟨_, rfl, rfl, V⟩
section
variable {w : WS} {h : AH} {v k : Int}
theorem c_X7_clear (s0 : wt w v = 17) : CV mX7_clear [vR v] w h (fun h' => h' = st h v 1 0) := e_X7_clear (r_X7_clear_0 ⟨s0, fun _ e => e⟩)
theorem c_X7_size (s0 : wt w v = 17) : CI mX7_size [vR v] w h (fun x h' => x = h v 1 ∧ h' = h) := e_X7_size (r_X7_size_0 ⟨s0, rfl, rfl⟩)
theorem c_X7_has (sh : shWakes w v) (hk : inR k) (hn : szW w h v) : CI mX7_has [vR v, vI k] w h (fun x h' => x = (if 0 ≤ k ∧ k < h v 1 then 1 else 0) ∧ h' = h) := by
  have hl := sh.2.2.2
  refine e_X7_has (r_X7_has_0 ⟨hk, fun c => ⟨?_, rfl⟩, fun c => ⟨sh.1, by omega, fun c2 => ⟨?_, rfl⟩, fun c2 => ⟨?_, rfl⟩⟩⟩)
  · rw [if_neg (by omega)]
  · rw [if_neg (by omega)]
  · rw [if_pos (by omega)]
theorem c_X7_add {x : Int} (sh : shWakes w v) (hn : 0 ≤ h v 1 ∧ h v 1 < wl w (v + 1)) : CV mX7_add [vR v, vI x] w h (fun h' => h' = st (st h (v + 1) (h v 1) x) v 1 (h v 1 + 1)) := by
  obtain ⟨s0, f0, t1, l1⟩ := sh
  refine e_X7_add (r_X7_add_0 ?_)
  rw [f0]
  refine ⟨s0, t1, by omega, by omega, fun q => absurd q (by omega), fun q => ⟨by omega, by omega, ?_⟩⟩
  intro h1 e1
  have r1 : h1 v 1 = h v 1 := by rw [e1]; exact st_cell _ _ _ _ (by omega)
  rw [r1]
  intro h2 e2
  rw [e2, e1]
end
theorem e_X7_tickAt {w : WS} {h : AH} {Q : Int → AH → Prop} {a0 a1 : Int} (X : XI mX7_tickAt 0 [some (vR a0), some (vI a1)] [] w h Q) : CI mX7_tickAt [vR a0, vI a1] w h Q := CA.of (M := mX7_tickAt) (by decide) rfl (Nat.le_of_ble_eq_true rfl) X
set_option maxRecDepth 20000 in
theorem r_X7_tickAt_0 {w : WS} {h : AH} {Q : Int → AH → Prop} {a0 a1 : Int} (V : (wt w a0 = 17 ∧ shWakes w a0 ∧ inR a1 ∧ szW w h a0 ∧ ((¬ (0 ≤ a1 ∧ a1 < h a0 1) → Q (-1) h) ∧ ((0 ≤ a1 ∧ a1 < h a0 1) → (wt w (wf w a0 0) = 1 ∧ 0 ≤ a1 ∧ a1 < wl w (wf w a0 0) ∧ Q (h (wf w a0 0) a1) h))))) : XI mX7_tickAt 0 [some (vR a0), some (vI a1)] [] w h Q := by
  refine s_aload_n (pc' := 1) (x := a0) dX7_tickAt_0 rfl rfl ?_
  refine s_iload_n (pc' := 2) (x := a1) dX7_tickAt_1 rfl rfl ?_
  obtain ⟨z1, z2, z3, z4, V⟩ := V
  refine s_callV (pc' := 5) (av := [vI a1]) (a := a0) (sk := []) (kc := 7) dX7_tickAt_2 ml_7_25 okX7_has oiX7_has (by decide) (NF := 2) rfl z1 rfl (Nat.le_of_ble_eq_true rfl) (Nat.le_refl 0) (Nat.le_refl 0) rfl (CI.eon (c_X7_has z2 z3 z4) ?_)
  obtain ⟨V8, V9⟩ := V
  refine s_ifeq_b (pc' := 8) (tgt := 17) dX7_tickAt_5 rfl rfl (fun c => ?_) (fun c => ?_)
  · have V := V8 c
    refine s_iconst (pc' := 18) dX7_tickAt_17 rfl ?_
    exact s_iret dX7_tickAt_18 rfl ⟨_, rfl, rfl, V⟩
  · have V := V9 c
    refine s_aload_n (pc' := 9) (x := a0) dX7_tickAt_8 rfl rfl ?_
    refine s_get (pc' := 12) (v := vR (wf w a0 0)) (kc := 7) (i := 0) dX7_tickAt_9 clX7 (by decide) fl_7_0 z1 (fun _ => rfl) rfl ?_
    refine s_iload_n (pc' := 13) (x := a1) dX7_tickAt_12 rfl rfl ?_
    obtain ⟨z5, z6, z7, V⟩ := V
    refine s_iald (pc' := 14) dX7_tickAt_13 z5 z6 z7 rfl ?_
    refine s_goto (tgt := 18) dX7_tickAt_14 rfl ?_
    exact s_iret dX7_tickAt_18 rfl ⟨_, rfl, rfl, V⟩
section
variable {w : WS} {h : AH} {v k : Int}
theorem c_X7_tickAt (sh : shWakes w v) (hk : inR k) (hn : szW w h v) : CI mX7_tickAt [vR v, vI k] w h (fun x h' => x = (if 0 ≤ k ∧ k < h v 1 then h (v + 1) k else -1) ∧ h' = h) := by
  obtain ⟨s0, f0, t1, l1⟩ := id sh
  refine e_X7_tickAt (r_X7_tickAt_0 ?_)
  rw [f0]
  exact ⟨s0, sh, hk, hn, fun q => ⟨(if_neg q).symm, rfl⟩, fun q => ⟨t1, q.1, by omega, (if_pos q).symm, rfl⟩⟩
end
theorem e_X7_firstFrom {w : WS} {h : AH} {Q : Int → AH → Prop} {a0 a1 : Int} (X : XI mX7_firstFrom 0 [some (vR a0), some (vI a1), none, none, none, none] [] w h Q) : CI mX7_firstFrom [vR a0, vI a1] w h Q := CA.of (M := mX7_firstFrom) (by decide) rfl (Nat.le_of_ble_eq_true rfl) X
set_option maxRecDepth 20000 in
theorem r_X7_firstFrom_0 {w : WS} {h : AH} {Q : Int → AH → Prop} {a0 a1 : Int} (V : (wt w a0 = 17 ∧ XI mX7_firstFrom 10 [some (vR a0), some (vI a1), some (vI 0), some (vI (h a0 1)), some (vI 0), none] [] w h Q)) : XI mX7_firstFrom 0 [some (vR a0), some (vI a1), none, none, none, none] [] w h Q := by
  refine s_iconst (pc' := 1) dX7_firstFrom_0 rfl ?_
  refine s_istore_n (pc' := 2) (ls' := [some (vR a0), some (vI a1), some (vI 0), none, none, none]) dX7_firstFrom_1 (by decide) rfl rfl ?_
  refine s_aload_n (pc' := 3) (x := a0) dX7_firstFrom_2 rfl rfl ?_
  obtain ⟨z1, V⟩ := V
  refine s_get (pc' := 6) (v := vI (h a0 1)) (kc := 7) (i := 1) dX7_firstFrom_3 clX7 (by decide) fl_7_1 z1 (fun _ => rfl) rfl ?_
  refine s_istore_n (pc' := 7) (ls' := [some (vR a0), some (vI a1), some (vI 0), some (vI (h a0 1)), none, none]) dX7_firstFrom_6 (by decide) rfl rfl ?_
  refine s_iconst (pc' := 8) dX7_firstFrom_7 rfl ?_
  refine s_istore (pc' := 10) (ls' := [some (vR a0), some (vI a1), some (vI 0), some (vI (h a0 1)), some (vI 0), none]) dX7_firstFrom_8 (by decide) rfl rfl ?_
  exact V
set_option maxRecDepth 20000 in
theorem r_X7_firstFrom_10 {w : WS} {h : AH} {Q : Int → AH → Prop} {a0 a1 a2 a3 a4 : Int} (V : (wt w a0 = 17 ∧ (wt w (wf w a0 0) = 1 ∧ (inR a4 ∧ inR (wl w (wf w a0 0)) ∧ (((wl w (wf w a0 0)) ≤ a4 → (inR a2 ∧ inR (h a0 1) ∧ (((h a0 1) ≤ a2 → Q (-1) h) ∧ (¬ (h a0 1) ≤ a2 → (0 ≤ a2 ∧ a2 < wl w (wf w a0 0) ∧ Q (h (wf w a0 0) a2) h))))) ∧ (¬ (wl w (wf w a0 0)) ≤ a4 → (inR a2 ∧ inR a3 ∧ ((a3 ≤ a2 → (inR (h a0 1) ∧ (((h a0 1) ≤ a2 → Q (-1) h) ∧ (¬ (h a0 1) ≤ a2 → (0 ≤ a2 ∧ a2 < wl w (wf w a0 0) ∧ Q (h (wf w a0 0) a2) h))))) ∧ (¬ a3 ≤ a2 → ((0 ≤ (a2 + a3) ∧ (a2 + a3) ≤ 2147483647) ∧ (0 ≤ ((a2 + a3) / 2) ∧ ((a2 + a3) / 2) < wl w (wf w a0 0) ∧ (inR (h (wf w a0 0) ((a2 + a3) / 2)) ∧ inR a1 ∧ (((h (wf w a0 0) ((a2 + a3) / 2)) < a1 → XI mX7_firstFrom 10 [some (vR a0), some (vI a1), some (vI (((a2 + a3) / 2) + 1)), some (vI a3), some (vI (a4 + 1)), none] [] w h Q) ∧ (¬ (h (wf w a0 0) ((a2 + a3) / 2)) < a1 → XI mX7_firstFrom 10 [some (vR a0), some (vI a1), some (vI a2), some (vI ((a2 + a3) / 2)), some (vI (a4 + 1)), none] [] w h Q)))))))))))))) : XI mX7_firstFrom 10 [some (vR a0), some (vI a1), some (vI a2), some (vI a3), some (vI a4), none] [] w h Q := by
  refine s_iload (pc' := 12) (x := a4) dX7_firstFrom_10 rfl rfl ?_
  refine s_aload_n (pc' := 13) (x := a0) dX7_firstFrom_12 rfl rfl ?_
  obtain ⟨z1, V⟩ := V
  refine s_get (pc' := 16) (v := vR (wf w a0 0)) (kc := 7) (i := 0) dX7_firstFrom_13 clX7 (by decide) fl_7_0 z1 (fun _ => rfl) rfl ?_
  obtain ⟨z2, V⟩ := V
  refine s_alen1 (pc' := 17) dX7_firstFrom_16 z2 rfl ?_
  obtain ⟨z3, z4, V⟩ := V
  obtain ⟨V27, V28⟩ := V
  refine s_icmp_ge (pc' := 20) (tgt := 60) dX7_firstFrom_17 rfl rfl z3 z4 (fun c => ?_) (fun c => ?_)
  · have V := V27 c
    refine s_iload_n (pc' := 61) (x := a2) dX7_firstFrom_60 rfl rfl ?_
    refine s_aload_n (pc' := 62) (x := a0) dX7_firstFrom_61 rfl rfl ?_
    refine s_get (pc' := 65) (v := vI (h a0 1)) (kc := 7) (i := 1) dX7_firstFrom_62 clX7 (by decide) fl_7_1 z1 (fun _ => rfl) rfl ?_
    obtain ⟨z5, z6, V⟩ := V
    obtain ⟨V9, V10⟩ := V
    refine s_icmp_ge (pc' := 68) (tgt := 77) dX7_firstFrom_65 rfl rfl z5 z6 (fun c => ?_) (fun c => ?_)
    · have V := V9 c
      refine s_iconst (pc' := 78) dX7_firstFrom_77 rfl ?_
      exact s_iret dX7_firstFrom_78 rfl ⟨_, rfl, rfl, V⟩
    · have V := V10 c
      refine s_aload_n (pc' := 69) (x := a0) dX7_firstFrom_68 rfl rfl ?_
      refine s_get (pc' := 72) (v := vR (wf w a0 0)) (kc := 7) (i := 0) dX7_firstFrom_69 clX7 (by decide) fl_7_0 z1 (fun _ => rfl) rfl ?_
      refine s_iload_n (pc' := 73) (x := a2) dX7_firstFrom_72 rfl rfl ?_
      obtain ⟨z7, z8, V⟩ := V
      refine s_iald (pc' := 74) dX7_firstFrom_73 z2 z7 z8 rfl ?_
      refine s_goto (tgt := 78) dX7_firstFrom_74 rfl ?_
      exact s_iret dX7_firstFrom_78 rfl ⟨_, rfl, rfl, V⟩
  · have V := V28 c
    refine s_iload_n (pc' := 21) (x := a2) dX7_firstFrom_20 rfl rfl ?_
    refine s_iload_n (pc' := 22) (x := a3) dX7_firstFrom_21 rfl rfl ?_
    obtain ⟨z11, z12, V⟩ := V
    obtain ⟨V25, V26⟩ := V
    refine s_icmp_ge (pc' := 25) (tgt := 60) dX7_firstFrom_22 rfl rfl z11 z12 (fun c => ?_) (fun c => ?_)
    · have V := V25 c
      refine s_iload_n (pc' := 61) (x := a2) dX7_firstFrom_60 rfl rfl ?_
      refine s_aload_n (pc' := 62) (x := a0) dX7_firstFrom_61 rfl rfl ?_
      refine s_get (pc' := 65) (v := vI (h a0 1)) (kc := 7) (i := 1) dX7_firstFrom_62 clX7 (by decide) fl_7_1 z1 (fun _ => rfl) rfl ?_
      obtain ⟨z13, V⟩ := V
      obtain ⟨V16, V17⟩ := V
      refine s_icmp_ge (pc' := 68) (tgt := 77) dX7_firstFrom_65 rfl rfl z11 z13 (fun c => ?_) (fun c => ?_)
      · have V := V16 c
        refine s_iconst (pc' := 78) dX7_firstFrom_77 rfl ?_
        exact s_iret dX7_firstFrom_78 rfl ⟨_, rfl, rfl, V⟩
      · have V := V17 c
        refine s_aload_n (pc' := 69) (x := a0) dX7_firstFrom_68 rfl rfl ?_
        refine s_get (pc' := 72) (v := vR (wf w a0 0)) (kc := 7) (i := 0) dX7_firstFrom_69 clX7 (by decide) fl_7_0 z1 (fun _ => rfl) rfl ?_
        refine s_iload_n (pc' := 73) (x := a2) dX7_firstFrom_72 rfl rfl ?_
        obtain ⟨z14, z15, V⟩ := V
        refine s_iald (pc' := 74) dX7_firstFrom_73 z2 z14 z15 rfl ?_
        refine s_goto (tgt := 78) dX7_firstFrom_74 rfl ?_
        exact s_iret dX7_firstFrom_78 rfl ⟨_, rfl, rfl, V⟩
    · have V := V26 c
      refine s_iload_n (pc' := 26) (x := a2) dX7_firstFrom_25 rfl rfl ?_
      refine s_iload_n (pc' := 27) (x := a3) dX7_firstFrom_26 rfl rfl ?_
      refine s_iadd (pc' := 28) dX7_firstFrom_27 rfl ?_
      refine s_iconst (pc' := 29) dX7_firstFrom_28 rfl ?_
      obtain ⟨z18, V⟩ := V
      refine s_idiv (pc' := 30) dX7_firstFrom_29 z18 (by decide) rfl ?_
      refine s_istore (pc' := 32) (ls' := [some (vR a0), some (vI a1), some (vI a2), some (vI a3), some (vI a4), some (vI ((a2 + a3) / 2))]) dX7_firstFrom_30 (by decide) rfl rfl ?_
      refine s_aload_n (pc' := 33) (x := a0) dX7_firstFrom_32 rfl rfl ?_
      refine s_get (pc' := 36) (v := vR (wf w a0 0)) (kc := 7) (i := 0) dX7_firstFrom_33 clX7 (by decide) fl_7_0 z1 (fun _ => rfl) rfl ?_
      refine s_iload (pc' := 38) (x := ((a2 + a3) / 2)) dX7_firstFrom_36 rfl rfl ?_
      obtain ⟨z19, z20, V⟩ := V
      refine s_iald (pc' := 39) dX7_firstFrom_38 z2 z19 z20 rfl ?_
      refine s_iload_n (pc' := 40) (x := a1) dX7_firstFrom_39 rfl rfl ?_
      obtain ⟨z21, z22, V⟩ := V
      obtain ⟨V23, V24⟩ := V
      refine s_icmp_lt (pc' := 43) (tgt := 49) dX7_firstFrom_40 rfl rfl z21 z22 (fun c => ?_) (fun c => ?_)
      · have V := V23 c
        refine s_iload (pc' := 51) (x := ((a2 + a3) / 2)) dX7_firstFrom_49 rfl rfl ?_
        refine s_iconst (pc' := 52) dX7_firstFrom_51 rfl ?_
        refine s_iadd (pc' := 53) dX7_firstFrom_52 rfl ?_
        refine s_istore_n (pc' := 54) (ls' := [some (vR a0), some (vI a1), some (vI (((a2 + a3) / 2) + 1)), some (vI a3), some (vI a4), some (vI ((a2 + a3) / 2))]) dX7_firstFrom_53 (by decide) rfl rfl ?_
        refine s_iinc (pc' := 57) (ls' := [some (vR a0), some (vI a1), some (vI (((a2 + a3) / 2) + 1)), some (vI a3), some (vI (a4 + 1)), some (vI ((a2 + a3) / 2))]) dX7_firstFrom_54 rfl (by decide) rfl rfl ?_
        refine s_goto (tgt := 10) dX7_firstFrom_57 rfl ?_
        refine s_drop 5 (ls' := [some (vR a0), some (vI a1), some (vI (((a2 + a3) / 2) + 1)), some (vI a3), some (vI (a4 + 1)), none]) rfl ?_
        exact V
      · have V := V24 c
        refine s_iload (pc' := 45) (x := ((a2 + a3) / 2)) dX7_firstFrom_43 rfl rfl ?_
        refine s_istore_n (pc' := 46) (ls' := [some (vR a0), some (vI a1), some (vI a2), some (vI ((a2 + a3) / 2)), some (vI a4), some (vI ((a2 + a3) / 2))]) dX7_firstFrom_45 (by decide) rfl rfl ?_
        refine s_goto (tgt := 54) dX7_firstFrom_46 rfl ?_
        refine s_iinc (pc' := 57) (ls' := [some (vR a0), some (vI a1), some (vI a2), some (vI ((a2 + a3) / 2)), some (vI (a4 + 1)), some (vI ((a2 + a3) / 2))]) dX7_firstFrom_54 rfl (by decide) rfl rfl ?_
        refine s_goto (tgt := 10) dX7_firstFrom_57 rfl ?_
        refine s_drop 5 (ls' := [some (vR a0), some (vI a1), some (vI a2), some (vI ((a2 + a3) / 2)), some (vI (a4 + 1)), none]) rfl ?_
        exact V
theorem e_X7_waitOf {w : WS} {h : AH} {Q : Int → AH → Prop} {a0 a1 a2 : Int} (X : XI mX7_waitOf 0 [some (vR a0), some (vR a1), some (vI a2), none] [] w h Q) : CI mX7_waitOf [vR a0, vR a1, vI a2] w h Q := CA.of (M := mX7_waitOf) (by decide) rfl (Nat.le_of_ble_eq_true rfl) X
set_option maxRecDepth 20000 in
theorem r_X7_waitOf_0 {w : WS} {h : AH} {Q : Int → AH → Prop} {a0 a1 a2 : Int} (V : (wt w a1 = 10 ∧ shCalls w a1 ∧ inR a2 ∧ szC w h a1 ∧ (∀ y5, y5 = (if 0 ≤ a2 ∧ a2 < h a1 4 then h (a1 + 1) a2 else -1) → (wt w a0 = 17 ∧ CI mX7_firstFrom [vR a0, vI y5] w h (fun x9 h8 => (inR (x9 - y5) ∧ Q (max (x9 - y5) 0) h8)))))) : XI mX7_waitOf 0 [some (vR a0), some (vR a1), some (vI a2), none] [] w h Q := by
  refine s_aload_n (pc' := 1) (x := a1) dX7_waitOf_0 rfl rfl ?_
  refine s_iload_n (pc' := 2) (x := a2) dX7_waitOf_1 rfl rfl ?_
  obtain ⟨z1, z2, z3, z4, V⟩ := V
  refine s_callV (pc' := 5) (av := [vI a2]) (a := a1) (sk := []) (kc := 0) dX7_waitOf_2 ml_7_46 okX0_fromOf oiX0_fromOf (by decide) (NF := 5) rfl z1 rfl (Nat.le_of_ble_eq_true rfl) (Nat.le_refl 0) (Nat.le_refl 0) rfl (CI.eon (c_X0_fromOf z2 z3 z4) ?_)
  obtain ⟨y5, e6⟩ : ∃ q, q = (if 0 ≤ a2 ∧ a2 < h a1 4 then h (a1 + 1) a2 else -1) := ⟨_, rfl⟩
  rw [← e6]
  have V := V y5 e6
  refine s_istore_n (pc' := 6) (ls' := [some (vR a0), some (vR a1), some (vI a2), some (vI y5)]) dX7_waitOf_5 (by decide) rfl rfl ?_
  refine s_aload_n (pc' := 7) (x := a0) dX7_waitOf_6 rfl rfl ?_
  refine s_iload_n (pc' := 8) (x := y5) dX7_waitOf_7 rfl rfl ?_
  obtain ⟨z7, V⟩ := V
  refine s_callV (pc' := 11) (av := [vI y5]) (a := a0) (sk := []) (kc := 7) dX7_waitOf_8 ml_7_49 okX7_firstFrom oiX7_firstFrom (by decide) (NF := 2) rfl z7 rfl (Nat.le_of_ble_eq_true rfl) (Nat.le_refl 0) (Nat.le_refl 0) rfl (CI.on V (fun x9 h8 V => ?_))
  refine s_iload_n (pc' := 12) (x := y5) dX7_waitOf_11 rfl rfl ?_
  refine s_isub (pc' := 13) dX7_waitOf_12 rfl ?_
  refine s_iconst (pc' := 14) dX7_waitOf_13 rfl ?_
  obtain ⟨z10, V⟩ := V
  refine s_max (pc' := 17) dX7_waitOf_14 ml_7_9 mst_max mini_Math mcode_max (by decide) (Nat.le_of_ble_eq_true rfl) z10 (by decide) rfl ?_
  exact s_iret dX7_waitOf_17 rfl ⟨_, rfl, rfl, V⟩
theorem e_X7_waitsOf {w : WS} {h : AH} {Q : Int → AH → Prop} {a0 a1 : Int} (X : XI mX7_waitsOf 0 [some (vR a0), some (vR a1), none, none] [] w h Q) : CI mX7_waitsOf [vR a0, vR a1] w h Q := CA.of (M := mX7_waitsOf) (by decide) rfl (Nat.le_of_ble_eq_true rfl) X
set_option maxRecDepth 20000 in
theorem r_X7_waitsOf_0 {w : WS} {h : AH} {Q : Int → AH → Prop} {a0 a1 : Int} (V : XI mX7_waitsOf 4 [some (vR a0), some (vR a1), some (vI 0), some (vI 0)] [] w h Q) : XI mX7_waitsOf 0 [some (vR a0), some (vR a1), none, none] [] w h Q := by
  refine s_iconst (pc' := 1) dX7_waitsOf_0 rfl ?_
  refine s_istore_n (pc' := 2) (ls' := [some (vR a0), some (vR a1), some (vI 0), none]) dX7_waitsOf_1 (by decide) rfl rfl ?_
  refine s_iconst (pc' := 3) dX7_waitsOf_2 rfl ?_
  refine s_istore_n (pc' := 4) (ls' := [some (vR a0), some (vR a1), some (vI 0), some (vI 0)]) dX7_waitsOf_3 (by decide) rfl rfl ?_
  exact V
set_option maxRecDepth 20000 in
theorem r_X7_waitsOf_4 {w : WS} {h : AH} {Q : Int → AH → Prop} {a0 a1 a2 a3 : Int} (V : (wt w a1 = 10 ∧ (inR a3 ∧ inR (h a1 4) ∧ (((h a1 4) ≤ a3 → Q a2 h) ∧ (¬ (h a1 4) ≤ a3 → (shCalls w a1 ∧ szC w h a1 ∧ (wt w a0 = 17 ∧ CI mX7_waitOf [vR a0, vR a1, vI a3] w h (fun x8 h7 => (∀ y9, y9 = (a2 + ((if 0 ≤ a3 ∧ a3 < h a1 4 then h (a1 + 3) a3 else -1) * x8)) → XI mX7_waitsOf 4 [some (vR a0), some (vR a1), some (vI y9), some (vI (a3 + 1))] [] w h7 Q))))))))) : XI mX7_waitsOf 4 [some (vR a0), some (vR a1), some (vI a2), some (vI a3)] [] w h Q := by
  refine s_iload_n (pc' := 5) (x := a3) dX7_waitsOf_4 rfl rfl ?_
  refine s_aload_n (pc' := 6) (x := a1) dX7_waitsOf_5 rfl rfl ?_
  obtain ⟨z1, V⟩ := V
  refine s_callV (pc' := 9) (av := []) (a := a1) (sk := [vI a3]) (kc := 0) dX7_waitsOf_6 ml_7_33 okX0_size oiX0_size (by decide) (NF := 5) rfl z1 rfl (Nat.le_of_ble_eq_true rfl) (Nat.le_refl 0) (Nat.le_refl 0) rfl (CI.eon (c_X0_size z1) ?_)
  obtain ⟨z2, z3, V⟩ := V
  obtain ⟨V11, V12⟩ := V
  refine s_icmp_ge (pc' := 12) (tgt := 33) dX7_waitsOf_9 rfl rfl z2 z3 (fun c => ?_) (fun c => ?_)
  · have V := V11 c
    refine s_iload_n (pc' := 34) (x := a2) dX7_waitsOf_33 rfl rfl ?_
    exact s_iret dX7_waitsOf_34 rfl ⟨_, rfl, rfl, V⟩
  · have V := V12 c
    refine s_iload_n (pc' := 13) (x := a2) dX7_waitsOf_12 rfl rfl ?_
    refine s_aload_n (pc' := 14) (x := a1) dX7_waitsOf_13 rfl rfl ?_
    refine s_iload_n (pc' := 15) (x := a3) dX7_waitsOf_14 rfl rfl ?_
    obtain ⟨z4, z5, V⟩ := V
    refine s_callV (pc' := 18) (av := [vI a3]) (a := a1) (sk := [vI a2]) (kc := 0) dX7_waitsOf_15 ml_7_38 okX0_weightOf oiX0_weightOf (by decide) (NF := 5) rfl z1 rfl (Nat.le_of_ble_eq_true rfl) (Nat.le_refl 0) (Nat.le_refl 0) rfl (CI.eon (c_X0_weightOf z4 z2 z5) ?_)
    refine s_aload_n (pc' := 19) (x := a0) dX7_waitsOf_18 rfl rfl ?_
    refine s_aload_n (pc' := 20) (x := a1) dX7_waitsOf_19 rfl rfl ?_
    refine s_iload_n (pc' := 21) (x := a3) dX7_waitsOf_20 rfl rfl ?_
    obtain ⟨z6, V⟩ := V
    refine s_callV (pc' := 24) (av := [vR a1, vI a3]) (a := a0) (sk := [vI (if 0 ≤ a3 ∧ a3 < h a1 4 then h (a1 + 3) a3 else -1), vI a2]) (kc := 7) dX7_waitsOf_21 ml_7_42 okX7_waitOf oiX7_waitOf (by decide) (NF := 2) rfl z6 rfl (Nat.le_of_ble_eq_true rfl) (Nat.le_refl 0) (Nat.le_refl 0) rfl (CI.on V (fun x8 h7 V => ?_))
    refine s_imul (pc' := 25) dX7_waitsOf_24 rfl ?_
    refine s_iadd (pc' := 26) dX7_waitsOf_25 rfl ?_
    obtain ⟨y9, e10⟩ : ∃ q, q = (a2 + ((if 0 ≤ a3 ∧ a3 < h a1 4 then h (a1 + 3) a3 else -1) * x8)) := ⟨_, rfl⟩
    rw [← e10]
    have V := V y9 e10
    refine s_istore_n (pc' := 27) (ls' := [some (vR a0), some (vR a1), some (vI y9), some (vI a3)]) dX7_waitsOf_26 (by decide) rfl rfl ?_
    refine s_iinc (pc' := 30) (ls' := [some (vR a0), some (vR a1), some (vI y9), some (vI (a3 + 1))]) dX7_waitsOf_27 rfl (by decide) rfl rfl ?_
    refine s_goto (tgt := 4) dX7_waitsOf_30 rfl ?_
    exact V
theorem e_X7_costFor {w : WS} {h : AH} {Q : Int → AH → Prop} {a0 a1 a2 : Int} (X : XI mX7_costFor 0 [some (vR a0), some (vR a1), some (vI a2)] [] w h Q) : CI mX7_costFor [vR a0, vR a1, vI a2] w h Q := CA.of (M := mX7_costFor) (by decide) rfl (Nat.le_of_ble_eq_true rfl) X
set_option maxRecDepth 20000 in
theorem r_X7_costFor_0 {w : WS} {h : AH} {Q : Int → AH → Prop} {a0 a1 a2 : Int} (V : (wt w a0 = 17 ∧ CI mX7_waitsOf [vR a0, vR a1] w h (fun x3 h2 => Q ((a2 * (h a0 1)) + x3) h2))) : XI mX7_costFor 0 [some (vR a0), some (vR a1), some (vI a2)] [] w h Q := by
  refine s_iload_n (pc' := 1) (x := a2) dX7_costFor_0 rfl rfl ?_
  refine s_aload_n (pc' := 2) (x := a0) dX7_costFor_1 rfl rfl ?_
  obtain ⟨z1, V⟩ := V
  refine s_get (pc' := 5) (v := vI (h a0 1)) (kc := 7) (i := 1) dX7_costFor_2 clX7 (by decide) fl_7_1 z1 (fun _ => rfl) rfl ?_
  refine s_imul (pc' := 6) dX7_costFor_5 rfl ?_
  refine s_aload_n (pc' := 7) (x := a0) dX7_costFor_6 rfl rfl ?_
  refine s_aload_n (pc' := 8) (x := a1) dX7_costFor_7 rfl rfl ?_
  refine s_callV (pc' := 11) (av := [vR a1]) (a := a0) (sk := [vI (a2 * (h a0 1))]) (kc := 7) dX7_costFor_8 ml_7_29 okX7_waitsOf oiX7_waitsOf (by decide) (NF := 2) rfl z1 rfl (Nat.le_of_ble_eq_true rfl) (Nat.le_refl 0) (Nat.le_refl 0) rfl (CI.on V (fun x3 h2 V => ?_))
  refine s_iadd (pc' := 12) dX7_costFor_11 rfl ?_
  exact s_iret dX7_costFor_12 rfl ⟨_, rfl, rfl, V⟩
theorem e_X7_longestWait {w : WS} {h : AH} {Q : Int → AH → Prop} {a0 a1 : Int} (X : XI mX7_longestWait 0 [some (vR a0), some (vR a1), none, none] [] w h Q) : CI mX7_longestWait [vR a0, vR a1] w h Q := CA.of (M := mX7_longestWait) (by decide) rfl (Nat.le_of_ble_eq_true rfl) X
set_option maxRecDepth 20000 in
theorem r_X7_longestWait_0 {w : WS} {h : AH} {Q : Int → AH → Prop} {a0 a1 : Int} (V : XI mX7_longestWait 4 [some (vR a0), some (vR a1), some (vI 0), some (vI 0)] [] w h Q) : XI mX7_longestWait 0 [some (vR a0), some (vR a1), none, none] [] w h Q := by
  refine s_iconst (pc' := 1) dX7_longestWait_0 rfl ?_
  refine s_istore_n (pc' := 2) (ls' := [some (vR a0), some (vR a1), some (vI 0), none]) dX7_longestWait_1 (by decide) rfl rfl ?_
  refine s_iconst (pc' := 3) dX7_longestWait_2 rfl ?_
  refine s_istore_n (pc' := 4) (ls' := [some (vR a0), some (vR a1), some (vI 0), some (vI 0)]) dX7_longestWait_3 (by decide) rfl rfl ?_
  exact V
set_option maxRecDepth 20000 in
theorem r_X7_longestWait_4 {w : WS} {h : AH} {Q : Int → AH → Prop} {a0 a1 a2 a3 : Int} (V : (wt w a1 = 10 ∧ (inR a3 ∧ inR (h a1 4) ∧ (((h a1 4) ≤ a3 → Q a2 h) ∧ (¬ (h a1 4) ≤ a3 → (wt w a0 = 17 ∧ CI mX7_waitOf [vR a0, vR a1, vI a3] w h (fun x6 h5 => (inR a2 ∧ inR x6 ∧ XI mX7_longestWait 4 [some (vR a0), some (vR a1), some (vI (max a2 x6)), some (vI (a3 + 1))] [] w h5 Q)))))))) : XI mX7_longestWait 4 [some (vR a0), some (vR a1), some (vI a2), some (vI a3)] [] w h Q := by
  refine s_iload_n (pc' := 5) (x := a3) dX7_longestWait_4 rfl rfl ?_
  refine s_aload_n (pc' := 6) (x := a1) dX7_longestWait_5 rfl rfl ?_
  obtain ⟨z1, V⟩ := V
  refine s_callV (pc' := 9) (av := []) (a := a1) (sk := [vI a3]) (kc := 0) dX7_longestWait_6 ml_7_33 okX0_size oiX0_size (by decide) (NF := 5) rfl z1 rfl (Nat.le_of_ble_eq_true rfl) (Nat.le_refl 0) (Nat.le_refl 0) rfl (CI.eon (c_X0_size z1) ?_)
  obtain ⟨z2, z3, V⟩ := V
  obtain ⟨V9, V10⟩ := V
  refine s_icmp_ge (pc' := 12) (tgt := 29) dX7_longestWait_9 rfl rfl z2 z3 (fun c => ?_) (fun c => ?_)
  · have V := V9 c
    refine s_iload_n (pc' := 30) (x := a2) dX7_longestWait_29 rfl rfl ?_
    exact s_iret dX7_longestWait_30 rfl ⟨_, rfl, rfl, V⟩
  · have V := V10 c
    refine s_iload_n (pc' := 13) (x := a2) dX7_longestWait_12 rfl rfl ?_
    refine s_aload_n (pc' := 14) (x := a0) dX7_longestWait_13 rfl rfl ?_
    refine s_aload_n (pc' := 15) (x := a1) dX7_longestWait_14 rfl rfl ?_
    refine s_iload_n (pc' := 16) (x := a3) dX7_longestWait_15 rfl rfl ?_
    obtain ⟨z4, V⟩ := V
    refine s_callV (pc' := 19) (av := [vR a1, vI a3]) (a := a0) (sk := [vI a2]) (kc := 7) dX7_longestWait_16 ml_7_42 okX7_waitOf oiX7_waitOf (by decide) (NF := 2) rfl z4 rfl (Nat.le_of_ble_eq_true rfl) (Nat.le_refl 0) (Nat.le_refl 0) rfl (CI.on V (fun x6 h5 V => ?_))
    obtain ⟨z7, z8, V⟩ := V
    refine s_max (pc' := 22) dX7_longestWait_19 ml_7_9 mst_max mini_Math mcode_max (by decide) (Nat.le_of_ble_eq_true rfl) z7 z8 rfl ?_
    refine s_istore_n (pc' := 23) (ls' := [some (vR a0), some (vR a1), some (vI (max a2 x6)), some (vI a3)]) dX7_longestWait_22 (by decide) rfl rfl ?_
    refine s_iinc (pc' := 26) (ls' := [some (vR a0), some (vR a1), some (vI (max a2 x6)), some (vI (a3 + 1))]) dX7_longestWait_23 rfl (by decide) rfl rfl ?_
    refine s_goto (tgt := 4) dX7_longestWait_26 rfl ?_
    exact V
theorem e_X7_mostAnswered {w : WS} {h : AH} {Q : Int → AH → Prop} {a0 a1 : Int} (X : XI mX7_mostAnswered 0 [some (vR a0), some (vR a1), none, none, none, none, none] [] w h Q) : CI mX7_mostAnswered [vR a0, vR a1] w h Q := CA.of (M := mX7_mostAnswered) (by decide) rfl (Nat.le_of_ble_eq_true rfl) X
set_option maxRecDepth 20000 in
theorem r_X7_mostAnswered_0 {w : WS} {h : AH} {Q : Int → AH → Prop} {a0 a1 : Int} (V : XI mX7_mostAnswered 10 [some (vR a0), some (vR a1), some (vI 0), some (vI 0), some (vI (-1)), some (vI 0), none] [] w h Q) : XI mX7_mostAnswered 0 [some (vR a0), some (vR a1), none, none, none, none, none] [] w h Q := by
  refine s_iconst (pc' := 1) dX7_mostAnswered_0 rfl ?_
  refine s_istore_n (pc' := 2) (ls' := [some (vR a0), some (vR a1), some (vI 0), none, none, none, none]) dX7_mostAnswered_1 (by decide) rfl rfl ?_
  refine s_iconst (pc' := 3) dX7_mostAnswered_2 rfl ?_
  refine s_istore_n (pc' := 4) (ls' := [some (vR a0), some (vR a1), some (vI 0), some (vI 0), none, none, none]) dX7_mostAnswered_3 (by decide) rfl rfl ?_
  refine s_iconst (pc' := 5) dX7_mostAnswered_4 rfl ?_
  refine s_istore (pc' := 7) (ls' := [some (vR a0), some (vR a1), some (vI 0), some (vI 0), some (vI (-1)), none, none]) dX7_mostAnswered_5 (by decide) rfl rfl ?_
  refine s_iconst (pc' := 8) dX7_mostAnswered_7 rfl ?_
  refine s_istore (pc' := 10) (ls' := [some (vR a0), some (vR a1), some (vI 0), some (vI 0), some (vI (-1)), some (vI 0), none]) dX7_mostAnswered_8 (by decide) rfl rfl ?_
  exact V
set_option maxRecDepth 20000 in
theorem r_X7_mostAnswered_10 {w : WS} {h : AH} {Q : Int → AH → Prop} {a0 a1 a2 a3 a4 a5 : Int} (V : (wt w a1 = 10 ∧ (inR a5 ∧ inR (h a1 4) ∧ (((h a1 4) ≤ a5 → Q a2 h) ∧ (¬ (h a1 4) ≤ a5 → (shCalls w a1 ∧ szC w h a1 ∧ (wt w a0 = 17 ∧ CI mX7_firstFrom [vR a0, vI (if 0 ≤ a5 ∧ a5 < h a1 4 then h (a1 + 1) a5 else -1)] w h (fun x8 h7 => (inR x8 ∧ inR a4 ∧ ((¬ x8 = a4 → (inR a2 ∧ XI mX7_mostAnswered 10 [some (vR a0), some (vR a1), some (vI (max a2 1)), some (vI 1), some (vI x8), some (vI (a5 + 1)), none] [] w h7 Q)) ∧ (x8 = a4 → (inR a2 ∧ inR (a3 + 1) ∧ XI mX7_mostAnswered 10 [some (vR a0), some (vR a1), some (vI (max a2 (a3 + 1))), some (vI (a3 + 1)), some (vI x8), some (vI (a5 + 1)), none] [] w h7 Q)))))))))))) : XI mX7_mostAnswered 10 [some (vR a0), some (vR a1), some (vI a2), some (vI a3), some (vI a4), some (vI a5), none] [] w h Q := by
  refine s_iload (pc' := 12) (x := a5) dX7_mostAnswered_10 rfl rfl ?_
  refine s_aload_n (pc' := 13) (x := a1) dX7_mostAnswered_12 rfl rfl ?_
  obtain ⟨z1, V⟩ := V
  refine s_callV (pc' := 16) (av := []) (a := a1) (sk := [vI a5]) (kc := 0) dX7_mostAnswered_13 ml_7_33 okX0_size oiX0_size (by decide) (NF := 5) rfl z1 rfl (Nat.le_of_ble_eq_true rfl) (Nat.le_refl 0) (Nat.le_refl 0) rfl (CI.eon (c_X0_size z1) ?_)
  obtain ⟨z2, z3, V⟩ := V
  obtain ⟨V16, V17⟩ := V
  refine s_icmp_ge (pc' := 19) (tgt := 62) dX7_mostAnswered_16 rfl rfl z2 z3 (fun c => ?_) (fun c => ?_)
  · have V := V16 c
    refine s_iload_n (pc' := 63) (x := a2) dX7_mostAnswered_62 rfl rfl ?_
    exact s_iret dX7_mostAnswered_63 rfl ⟨_, rfl, rfl, V⟩
  · have V := V17 c
    refine s_aload_n (pc' := 20) (x := a0) dX7_mostAnswered_19 rfl rfl ?_
    refine s_aload_n (pc' := 21) (x := a1) dX7_mostAnswered_20 rfl rfl ?_
    refine s_iload (pc' := 23) (x := a5) dX7_mostAnswered_21 rfl rfl ?_
    obtain ⟨z4, z5, V⟩ := V
    refine s_callV (pc' := 26) (av := [vI a5]) (a := a1) (sk := [vR a0]) (kc := 0) dX7_mostAnswered_23 ml_7_46 okX0_fromOf oiX0_fromOf (by decide) (NF := 5) rfl z1 rfl (Nat.le_of_ble_eq_true rfl) (Nat.le_refl 0) (Nat.le_refl 0) rfl (CI.eon (c_X0_fromOf z4 z2 z5) ?_)
    obtain ⟨z6, V⟩ := V
    refine s_callV (pc' := 29) (av := [vI (if 0 ≤ a5 ∧ a5 < h a1 4 then h (a1 + 1) a5 else -1)]) (a := a0) (sk := []) (kc := 7) dX7_mostAnswered_26 ml_7_49 okX7_firstFrom oiX7_firstFrom (by decide) (NF := 2) rfl z6 rfl (Nat.le_of_ble_eq_true rfl) (Nat.le_refl 0) (Nat.le_refl 0) rfl (CI.on V (fun x8 h7 V => ?_))
    refine s_istore (pc' := 31) (ls' := [some (vR a0), some (vR a1), some (vI a2), some (vI a3), some (vI a4), some (vI a5), some (vI x8)]) dX7_mostAnswered_29 (by decide) rfl rfl ?_
    refine s_iload (pc' := 33) (x := x8) dX7_mostAnswered_31 rfl rfl ?_
    refine s_iload (pc' := 35) (x := a4) dX7_mostAnswered_33 rfl rfl ?_
    obtain ⟨z9, z10, V⟩ := V
    obtain ⟨V14, V15⟩ := V
    refine s_icmp_ne (pc' := 38) (tgt := 44) dX7_mostAnswered_35 rfl rfl z9 z10 (fun c => ?_) (fun c => ?_)
    · have V := V14 c
      refine s_iconst (pc' := 45) dX7_mostAnswered_44 rfl ?_
      refine s_istore_n (pc' := 46) (ls' := [some (vR a0), some (vR a1), some (vI a2), some (vI 1), some (vI a4), some (vI a5), some (vI x8)]) dX7_mostAnswered_45 (by decide) rfl rfl ?_
      refine s_iload (pc' := 48) (x := x8) dX7_mostAnswered_46 rfl rfl ?_
      refine s_istore (pc' := 50) (ls' := [some (vR a0), some (vR a1), some (vI a2), some (vI 1), some (vI x8), some (vI a5), some (vI x8)]) dX7_mostAnswered_48 (by decide) rfl rfl ?_
      refine s_iload_n (pc' := 51) (x := a2) dX7_mostAnswered_50 rfl rfl ?_
      refine s_iload_n (pc' := 52) (x := 1) dX7_mostAnswered_51 rfl rfl ?_
      obtain ⟨z11, V⟩ := V
      refine s_max (pc' := 55) dX7_mostAnswered_52 ml_7_9 mst_max mini_Math mcode_max (by decide) (Nat.le_of_ble_eq_true rfl) z11 (by decide) rfl ?_
      refine s_istore_n (pc' := 56) (ls' := [some (vR a0), some (vR a1), some (vI (max a2 1)), some (vI 1), some (vI x8), some (vI a5), some (vI x8)]) dX7_mostAnswered_55 (by decide) rfl rfl ?_
      refine s_iinc (pc' := 59) (ls' := [some (vR a0), some (vR a1), some (vI (max a2 1)), some (vI 1), some (vI x8), some (vI (a5 + 1)), some (vI x8)]) dX7_mostAnswered_56 rfl (by decide) rfl rfl ?_
      refine s_goto (tgt := 10) dX7_mostAnswered_59 rfl ?_
      refine s_drop 6 (ls' := [some (vR a0), some (vR a1), some (vI (max a2 1)), some (vI 1), some (vI x8), some (vI (a5 + 1)), none]) rfl ?_
      exact V
    · have V := V15 c
      refine s_iload_n (pc' := 39) (x := a3) dX7_mostAnswered_38 rfl rfl ?_
      refine s_iconst (pc' := 40) dX7_mostAnswered_39 rfl ?_
      refine s_iadd (pc' := 41) dX7_mostAnswered_40 rfl ?_
      refine s_goto (tgt := 45) dX7_mostAnswered_41 rfl ?_
      refine s_istore_n (pc' := 46) (ls' := [some (vR a0), some (vR a1), some (vI a2), some (vI (a3 + 1)), some (vI a4), some (vI a5), some (vI x8)]) dX7_mostAnswered_45 (by decide) rfl rfl ?_
      refine s_iload (pc' := 48) (x := x8) dX7_mostAnswered_46 rfl rfl ?_
      refine s_istore (pc' := 50) (ls' := [some (vR a0), some (vR a1), some (vI a2), some (vI (a3 + 1)), some (vI x8), some (vI a5), some (vI x8)]) dX7_mostAnswered_48 (by decide) rfl rfl ?_
      refine s_iload_n (pc' := 51) (x := a2) dX7_mostAnswered_50 rfl rfl ?_
      refine s_iload_n (pc' := 52) (x := (a3 + 1)) dX7_mostAnswered_51 rfl rfl ?_
      obtain ⟨z12, z13, V⟩ := V
      refine s_max (pc' := 55) dX7_mostAnswered_52 ml_7_9 mst_max mini_Math mcode_max (by decide) (Nat.le_of_ble_eq_true rfl) z12 z13 rfl ?_
      refine s_istore_n (pc' := 56) (ls' := [some (vR a0), some (vR a1), some (vI (max a2 (a3 + 1))), some (vI (a3 + 1)), some (vI x8), some (vI a5), some (vI x8)]) dX7_mostAnswered_55 (by decide) rfl rfl ?_
      refine s_iinc (pc' := 59) (ls' := [some (vR a0), some (vR a1), some (vI (max a2 (a3 + 1))), some (vI (a3 + 1)), some (vI x8), some (vI (a5 + 1)), some (vI x8)]) dX7_mostAnswered_56 rfl (by decide) rfl rfl ?_
      refine s_goto (tgt := 10) dX7_mostAnswered_59 rfl ?_
      refine s_drop 6 (ls' := [some (vR a0), some (vR a1), some (vI (max a2 (a3 + 1))), some (vI (a3 + 1)), some (vI x8), some (vI (a5 + 1)), none]) rfl ?_
      exact V
theorem e_X7_energy {w : WS} {h : AH} {Q : Int → AH → Prop} {a0 a1 a2 : Int} (X : XI mX7_energy 0 [some (vR a0), some (vI a1), some (vI a2), none, none] [] w h Q) : CI mX7_energy [vR a0, vI a1, vI a2] w h Q := CA.of (M := mX7_energy) (by decide) rfl (Nat.le_of_ble_eq_true rfl) X
set_option maxRecDepth 20000 in
theorem r_X7_energy_0 {w : WS} {h : AH} {Q : Int → AH → Prop} {a0 a1 a2 : Int} (V : (wt w a0 = 17 ∧ (inR (h a0 1) ∧ (((h a0 1) ≤ 0 → XI mX7_energy 16 [some (vR a0), some (vI a1), some (vI a2), some (vI 0), some (vI 1)] [] w h Q) ∧ (¬ (h a0 1) ≤ 0 → XI mX7_energy 16 [some (vR a0), some (vI a1), some (vI a2), some (vI a1), some (vI 1)] [] w h Q))))) : XI mX7_energy 0 [some (vR a0), some (vI a1), some (vI a2), none, none] [] w h Q := by
  refine s_aload_n (pc' := 1) (x := a0) dX7_energy_0 rfl rfl ?_
  obtain ⟨z1, V⟩ := V
  refine s_get (pc' := 4) (v := vI (h a0 1)) (kc := 7) (i := 1) dX7_energy_1 clX7 (by decide) fl_7_1 z1 (fun _ => rfl) rfl ?_
  obtain ⟨z2, V⟩ := V
  obtain ⟨V3, V4⟩ := V
  refine s_if_le (pc' := 7) (tgt := 11) dX7_energy_4 rfl rfl z2 (fun c => ?_) (fun c => ?_)
  · have V := V3 c
    refine s_iconst (pc' := 12) dX7_energy_11 rfl ?_
    refine s_istore_n (pc' := 13) (ls' := [some (vR a0), some (vI a1), some (vI a2), some (vI 0), none]) dX7_energy_12 (by decide) rfl rfl ?_
    refine s_iconst (pc' := 14) dX7_energy_13 rfl ?_
    refine s_istore (pc' := 16) (ls' := [some (vR a0), some (vI a1), some (vI a2), some (vI 0), some (vI 1)]) dX7_energy_14 (by decide) rfl rfl ?_
    exact V
  · have V := V4 c
    refine s_iload_n (pc' := 8) (x := a1) dX7_energy_7 rfl rfl ?_
    refine s_goto (tgt := 12) dX7_energy_8 rfl ?_
    refine s_istore_n (pc' := 13) (ls' := [some (vR a0), some (vI a1), some (vI a2), some (vI a1), none]) dX7_energy_12 (by decide) rfl rfl ?_
    refine s_iconst (pc' := 14) dX7_energy_13 rfl ?_
    refine s_istore (pc' := 16) (ls' := [some (vR a0), some (vI a1), some (vI a2), some (vI a1), some (vI 1)]) dX7_energy_14 (by decide) rfl rfl ?_
    exact V
set_option maxRecDepth 20000 in
theorem r_X7_energy_16 {w : WS} {h : AH} {Q : Int → AH → Prop} {a0 a1 a2 a3 a4 : Int} (V : (wt w a0 = 17 ∧ (inR a4 ∧ inR (h a0 1) ∧ (((h a0 1) ≤ a4 → Q a3 h) ∧ (¬ (h a0 1) ≤ a4 → (wt w (wf w a0 0) = 1 ∧ 0 ≤ a4 ∧ a4 < wl w (wf w a0 0) ∧ (0 ≤ (a4 - 1) ∧ (a4 - 1) < wl w (wf w a0 0) ∧ (inR a1 ∧ inR (a2 * ((h (wf w a0 0) a4) - (h (wf w a0 0) (a4 - 1)))) ∧ (∀ y11, y11 = (a3 + (min a1 (a2 * ((h (wf w a0 0) a4) - (h (wf w a0 0) (a4 - 1)))))) → XI mX7_energy 16 [some (vR a0), some (vI a1), some (vI a2), some (vI y11), some (vI (a4 + 1))] [] w h Q))))))))) : XI mX7_energy 16 [some (vR a0), some (vI a1), some (vI a2), some (vI a3), some (vI a4)] [] w h Q := by
  refine s_iload (pc' := 18) (x := a4) dX7_energy_16 rfl rfl ?_
  refine s_aload_n (pc' := 19) (x := a0) dX7_energy_18 rfl rfl ?_
  obtain ⟨z1, V⟩ := V
  refine s_get (pc' := 22) (v := vI (h a0 1)) (kc := 7) (i := 1) dX7_energy_19 clX7 (by decide) fl_7_1 z1 (fun _ => rfl) rfl ?_
  obtain ⟨z2, z3, V⟩ := V
  obtain ⟨V13, V14⟩ := V
  refine s_icmp_ge (pc' := 25) (tgt := 57) dX7_energy_22 rfl rfl z2 z3 (fun c => ?_) (fun c => ?_)
  · have V := V13 c
    refine s_iload_n (pc' := 58) (x := a3) dX7_energy_57 rfl rfl ?_
    exact s_iret dX7_energy_58 rfl ⟨_, rfl, rfl, V⟩
  · have V := V14 c
    refine s_iload_n (pc' := 26) (x := a3) dX7_energy_25 rfl rfl ?_
    refine s_iload_n (pc' := 27) (x := a1) dX7_energy_26 rfl rfl ?_
    refine s_iload_n (pc' := 28) (x := a2) dX7_energy_27 rfl rfl ?_
    refine s_aload_n (pc' := 29) (x := a0) dX7_energy_28 rfl rfl ?_
    refine s_get (pc' := 32) (v := vR (wf w a0 0)) (kc := 7) (i := 0) dX7_energy_29 clX7 (by decide) fl_7_0 z1 (fun _ => rfl) rfl ?_
    refine s_iload (pc' := 34) (x := a4) dX7_energy_32 rfl rfl ?_
    obtain ⟨z4, z5, z6, V⟩ := V
    refine s_iald (pc' := 35) dX7_energy_34 z4 z5 z6 rfl ?_
    refine s_aload_n (pc' := 36) (x := a0) dX7_energy_35 rfl rfl ?_
    refine s_get (pc' := 39) (v := vR (wf w a0 0)) (kc := 7) (i := 0) dX7_energy_36 clX7 (by decide) fl_7_0 z1 (fun _ => rfl) rfl ?_
    refine s_iload (pc' := 41) (x := a4) dX7_energy_39 rfl rfl ?_
    refine s_iconst (pc' := 42) dX7_energy_41 rfl ?_
    refine s_isub (pc' := 43) dX7_energy_42 rfl ?_
    obtain ⟨z7, z8, V⟩ := V
    refine s_iald (pc' := 44) dX7_energy_43 z4 z7 z8 rfl ?_
    refine s_isub (pc' := 45) dX7_energy_44 rfl ?_
    refine s_imul (pc' := 46) dX7_energy_45 rfl ?_
    obtain ⟨z9, z10, V⟩ := V
    refine s_min (pc' := 49) dX7_energy_46 ml_7_52 mst_min mini_Math mcode_min (by decide) (Nat.le_of_ble_eq_true rfl) z9 z10 rfl ?_
    refine s_iadd (pc' := 50) dX7_energy_49 rfl ?_
    obtain ⟨y11, e12⟩ : ∃ q, q = (a3 + (min a1 (a2 * ((h (wf w a0 0) a4) - (h (wf w a0 0) (a4 - 1)))))) := ⟨_, rfl⟩
    rw [← e12]
    have V := V y11 e12
    refine s_istore_n (pc' := 51) (ls' := [some (vR a0), some (vI a1), some (vI a2), some (vI y11), some (vI a4)]) dX7_energy_50 (by decide) rfl rfl ?_
    refine s_iinc (pc' := 54) (ls' := [some (vR a0), some (vI a1), some (vI a2), some (vI y11), some (vI (a4 + 1))]) dX7_energy_51 rfl (by decide) rfl rfl ?_
    refine s_goto (tgt := 16) dX7_energy_54 rfl ?_
    exact V
theorem e_X7_liveEnergy {w : WS} {h : AH} {Q : Int → AH → Prop} {a0 a1 a2 a3 : Int} (X : XI mX7_liveEnergy 0 [some (vR a0), some (vI a1), some (vI a2), some (vI a3), none, none, none, none] [] w h Q) : CI mX7_liveEnergy [vR a0, vI a1, vI a2, vI a3] w h Q := CA.of (M := mX7_liveEnergy) (by decide) rfl (Nat.le_of_ble_eq_true rfl) X
set_option maxRecDepth 20000 in
theorem r_X7_liveEnergy_0 {w : WS} {h : AH} {Q : Int → AH → Prop} {a0 a1 a2 a3 : Int} (V : (wt w a0 = 17 ∧ (inR (h a0 1) ∧ ((¬ (h a0 1) = 0 → (inR a2 ∧ ((a2 ≤ 0 → XI mX7_liveEnergy 29 [some (vR a0), some (vI a1), some (vI a2), some (vI a3), some (vI 1000000), some (vI a1), some (vI 1), none] [] w h Q) ∧ (¬ a2 ≤ 0 → ((0 ≤ a1 ∧ a1 ≤ 2147483647) ∧ (0 < a2 ∧ a2 ≤ 2147483647) ∧ XI mX7_liveEnergy 29 [some (vR a0), some (vI a1), some (vI a2), some (vI a3), some (vI (a1 / a2)), some (vI a1), some (vI 1), none] [] w h Q))))) ∧ ((h a0 1) = 0 → Q 0 h))))) : XI mX7_liveEnergy 0 [some (vR a0), some (vI a1), some (vI a2), some (vI a3), none, none, none, none] [] w h Q := by
  refine s_aload_n (pc' := 1) (x := a0) dX7_liveEnergy_0 rfl rfl ?_
  obtain ⟨z1, V⟩ := V
  refine s_get (pc' := 4) (v := vI (h a0 1)) (kc := 7) (i := 1) dX7_liveEnergy_1 clX7 (by decide) fl_7_1 z1 (fun _ => rfl) rfl ?_
  obtain ⟨z2, V⟩ := V
  obtain ⟨V8, V9⟩ := V
  refine s_if_ne (pc' := 7) (tgt := 9) dX7_liveEnergy_4 rfl rfl z2 (fun c => ?_) (fun c => ?_)
  · have V := V8 c
    refine s_iload_n (pc' := 10) (x := a2) dX7_liveEnergy_9 rfl rfl ?_
    obtain ⟨z3, V⟩ := V
    obtain ⟨V6, V7⟩ := V
    refine s_if_le (pc' := 13) (tgt := 19) dX7_liveEnergy_10 rfl rfl z3 (fun c => ?_) (fun c => ?_)
    · have V := V6 c
      refine s_ldc (pc' := 21) (x := 1000000) dX7_liveEnergy_19 cst_7_55 rfl rfl ?_
      refine s_istore (pc' := 23) (ls' := [some (vR a0), some (vI a1), some (vI a2), some (vI a3), some (vI 1000000), none, none, none]) dX7_liveEnergy_21 (by decide) rfl rfl ?_
      refine s_iload_n (pc' := 24) (x := a1) dX7_liveEnergy_23 rfl rfl ?_
      refine s_istore (pc' := 26) (ls' := [some (vR a0), some (vI a1), some (vI a2), some (vI a3), some (vI 1000000), some (vI a1), none, none]) dX7_liveEnergy_24 (by decide) rfl rfl ?_
      refine s_iconst (pc' := 27) dX7_liveEnergy_26 rfl ?_
      refine s_istore (pc' := 29) (ls' := [some (vR a0), some (vI a1), some (vI a2), some (vI a3), some (vI 1000000), some (vI a1), some (vI 1), none]) dX7_liveEnergy_27 (by decide) rfl rfl ?_
      exact V
    · have V := V7 c
      refine s_iload_n (pc' := 14) (x := a1) dX7_liveEnergy_13 rfl rfl ?_
      refine s_iload_n (pc' := 15) (x := a2) dX7_liveEnergy_14 rfl rfl ?_
      obtain ⟨z4, z5, V⟩ := V
      refine s_idiv (pc' := 16) dX7_liveEnergy_15 z4 z5 rfl ?_
      refine s_goto (tgt := 21) dX7_liveEnergy_16 rfl ?_
      refine s_istore (pc' := 23) (ls' := [some (vR a0), some (vI a1), some (vI a2), some (vI a3), some (vI (a1 / a2)), none, none, none]) dX7_liveEnergy_21 (by decide) rfl rfl ?_
      refine s_iload_n (pc' := 24) (x := a1) dX7_liveEnergy_23 rfl rfl ?_
      refine s_istore (pc' := 26) (ls' := [some (vR a0), some (vI a1), some (vI a2), some (vI a3), some (vI (a1 / a2)), some (vI a1), none, none]) dX7_liveEnergy_24 (by decide) rfl rfl ?_
      refine s_iconst (pc' := 27) dX7_liveEnergy_26 rfl ?_
      refine s_istore (pc' := 29) (ls' := [some (vR a0), some (vI a1), some (vI a2), some (vI a3), some (vI (a1 / a2)), some (vI a1), some (vI 1), none]) dX7_liveEnergy_27 (by decide) rfl rfl ?_
      exact V
  · have V := V9 c
    refine s_iconst (pc' := 8) dX7_liveEnergy_7 rfl ?_
    exact s_iret dX7_liveEnergy_8 rfl ⟨_, rfl, rfl, V⟩
set_option maxRecDepth 20000 in
theorem r_X7_liveEnergy_29 {w : WS} {h : AH} {Q : Int → AH → Prop} {a0 a1 a2 a3 a4 a5 a6 : Int} (V : (wt w a0 = 17 ∧ (inR a6 ∧ inR (h a0 1) ∧ (((h a0 1) ≤ a6 → (shWakes w a0 ∧ inR ((h a0 1) - 1) ∧ szW w h a0 ∧ (inR a4 ∧ inR (a3 - (if 0 ≤ ((h a0 1) - 1) ∧ ((h a0 1) - 1) < h a0 1 then h (a0 + 1) ((h a0 1) - 1) else -1)) ∧ Q (a5 + (a2 * (min a4 (a3 - (if 0 ≤ ((h a0 1) - 1) ∧ ((h a0 1) - 1) < h a0 1 then h (a0 + 1) ((h a0 1) - 1) else -1))))) h))) ∧ (¬ (h a0 1) ≤ a6 → (wt w (wf w a0 0) = 1 ∧ 0 ≤ a6 ∧ a6 < wl w (wf w a0 0) ∧ (0 ≤ (a6 - 1) ∧ (a6 - 1) < wl w (wf w a0 0) ∧ (∀ y14, y14 = ((h (wf w a0 0) a6) - (h (wf w a0 0) (a6 - 1))) → (inR y14 ∧ inR a4 ∧ ((a4 < y14 → XI mX7_liveEnergy 29 [some (vR a0), some (vI a1), some (vI a2), some (vI a3), some (vI a4), some (vI (a5 + ((a2 * a4) + a1))), some (vI (a6 + 1)), none] [] w h Q) ∧ (¬ a4 < y14 → XI mX7_liveEnergy 29 [some (vR a0), some (vI a1), some (vI a2), some (vI a3), some (vI a4), some (vI (a5 + (a2 * y14))), some (vI (a6 + 1)), none] [] w h Q))))))))))) : XI mX7_liveEnergy 29 [some (vR a0), some (vI a1), some (vI a2), some (vI a3), some (vI a4), some (vI a5), some (vI a6), none] [] w h Q := by
  refine s_iload (pc' := 31) (x := a6) dX7_liveEnergy_29 rfl rfl ?_
  refine s_aload_n (pc' := 32) (x := a0) dX7_liveEnergy_31 rfl rfl ?_
  obtain ⟨z1, V⟩ := V
  refine s_get (pc' := 35) (v := vI (h a0 1)) (kc := 7) (i := 1) dX7_liveEnergy_32 clX7 (by decide) fl_7_1 z1 (fun _ => rfl) rfl ?_
  obtain ⟨z2, z3, V⟩ := V
  obtain ⟨V20, V21⟩ := V
  refine s_icmp_ge (pc' := 38) (tgt := 88) dX7_liveEnergy_35 rfl rfl z2 z3 (fun c => ?_) (fun c => ?_)
  · have V := V20 c
    refine s_iload (pc' := 90) (x := a5) dX7_liveEnergy_88 rfl rfl ?_
    refine s_iload_n (pc' := 91) (x := a2) dX7_liveEnergy_90 rfl rfl ?_
    refine s_iload (pc' := 93) (x := a4) dX7_liveEnergy_91 rfl rfl ?_
    refine s_iload_n (pc' := 94) (x := a3) dX7_liveEnergy_93 rfl rfl ?_
    refine s_aload_n (pc' := 95) (x := a0) dX7_liveEnergy_94 rfl rfl ?_
    refine s_aload_n (pc' := 96) (x := a0) dX7_liveEnergy_95 rfl rfl ?_
    refine s_get (pc' := 99) (v := vI (h a0 1)) (kc := 7) (i := 1) dX7_liveEnergy_96 clX7 (by decide) fl_7_1 z1 (fun _ => rfl) rfl ?_
    refine s_iconst (pc' := 100) dX7_liveEnergy_99 rfl ?_
    refine s_isub (pc' := 101) dX7_liveEnergy_100 rfl ?_
    obtain ⟨z4, z5, z6, V⟩ := V
    refine s_callV (pc' := 104) (av := [vI ((h a0 1) - 1)]) (a := a0) (sk := [vI a3, vI a4, vI a2, vI a5]) (kc := 7) dX7_liveEnergy_101 ml_7_56 okX7_tickAt oiX7_tickAt (by decide) (NF := 2) rfl z1 rfl (Nat.le_of_ble_eq_true rfl) (Nat.le_refl 0) (Nat.le_refl 0) rfl (CI.eon (c_X7_tickAt z4 z5 z6) ?_)
    refine s_isub (pc' := 105) dX7_liveEnergy_104 rfl ?_
    obtain ⟨z7, z8, V⟩ := V
    refine s_min (pc' := 108) dX7_liveEnergy_105 ml_7_52 mst_min mini_Math mcode_min (by decide) (Nat.le_of_ble_eq_true rfl) z7 z8 rfl ?_
    refine s_imul (pc' := 109) dX7_liveEnergy_108 rfl ?_
    refine s_iadd (pc' := 110) dX7_liveEnergy_109 rfl ?_
    exact s_iret dX7_liveEnergy_110 rfl ⟨_, rfl, rfl, V⟩
  · have V := V21 c
    refine s_aload_n (pc' := 39) (x := a0) dX7_liveEnergy_38 rfl rfl ?_
    refine s_get (pc' := 42) (v := vR (wf w a0 0)) (kc := 7) (i := 0) dX7_liveEnergy_39 clX7 (by decide) fl_7_0 z1 (fun _ => rfl) rfl ?_
    refine s_iload (pc' := 44) (x := a6) dX7_liveEnergy_42 rfl rfl ?_
    obtain ⟨z9, z10, z11, V⟩ := V
    refine s_iald (pc' := 45) dX7_liveEnergy_44 z9 z10 z11 rfl ?_
    refine s_aload_n (pc' := 46) (x := a0) dX7_liveEnergy_45 rfl rfl ?_
    refine s_get (pc' := 49) (v := vR (wf w a0 0)) (kc := 7) (i := 0) dX7_liveEnergy_46 clX7 (by decide) fl_7_0 z1 (fun _ => rfl) rfl ?_
    refine s_iload (pc' := 51) (x := a6) dX7_liveEnergy_49 rfl rfl ?_
    refine s_iconst (pc' := 52) dX7_liveEnergy_51 rfl ?_
    refine s_isub (pc' := 53) dX7_liveEnergy_52 rfl ?_
    obtain ⟨z12, z13, V⟩ := V
    refine s_iald (pc' := 54) dX7_liveEnergy_53 z9 z12 z13 rfl ?_
    refine s_isub (pc' := 55) dX7_liveEnergy_54 rfl ?_
    obtain ⟨y14, e15⟩ : ∃ q, q = ((h (wf w a0 0) a6) - (h (wf w a0 0) (a6 - 1))) := ⟨_, rfl⟩
    rw [← e15]
    have V := V y14 e15
    refine s_istore (pc' := 57) (ls' := [some (vR a0), some (vI a1), some (vI a2), some (vI a3), some (vI a4), some (vI a5), some (vI a6), some (vI y14)]) dX7_liveEnergy_55 (by decide) rfl rfl ?_
    refine s_iload (pc' := 59) (x := a5) dX7_liveEnergy_57 rfl rfl ?_
    refine s_iload (pc' := 61) (x := y14) dX7_liveEnergy_59 rfl rfl ?_
    refine s_iload (pc' := 63) (x := a4) dX7_liveEnergy_61 rfl rfl ?_
    obtain ⟨z16, z17, V⟩ := V
    obtain ⟨V18, V19⟩ := V
    refine s_icmp_gt (pc' := 66) (tgt := 73) dX7_liveEnergy_63 rfl rfl z16 z17 (fun c => ?_) (fun c => ?_)
    · have V := V18 c
      refine s_iload_n (pc' := 74) (x := a2) dX7_liveEnergy_73 rfl rfl ?_
      refine s_iload (pc' := 76) (x := a4) dX7_liveEnergy_74 rfl rfl ?_
      refine s_imul (pc' := 77) dX7_liveEnergy_76 rfl ?_
      refine s_iload_n (pc' := 78) (x := a1) dX7_liveEnergy_77 rfl rfl ?_
      refine s_iadd (pc' := 79) dX7_liveEnergy_78 rfl ?_
      refine s_iadd (pc' := 80) dX7_liveEnergy_79 rfl ?_
      refine s_istore (pc' := 82) (ls' := [some (vR a0), some (vI a1), some (vI a2), some (vI a3), some (vI a4), some (vI (a5 + ((a2 * a4) + a1))), some (vI a6), some (vI y14)]) dX7_liveEnergy_80 (by decide) rfl rfl ?_
      refine s_iinc (pc' := 85) (ls' := [some (vR a0), some (vI a1), some (vI a2), some (vI a3), some (vI a4), some (vI (a5 + ((a2 * a4) + a1))), some (vI (a6 + 1)), some (vI y14)]) dX7_liveEnergy_82 rfl (by decide) rfl rfl ?_
      refine s_goto (tgt := 29) dX7_liveEnergy_85 rfl ?_
      refine s_drop 7 (ls' := [some (vR a0), some (vI a1), some (vI a2), some (vI a3), some (vI a4), some (vI (a5 + ((a2 * a4) + a1))), some (vI (a6 + 1)), none]) rfl ?_
      exact V
    · have V := V19 c
      refine s_iload_n (pc' := 67) (x := a2) dX7_liveEnergy_66 rfl rfl ?_
      refine s_iload (pc' := 69) (x := y14) dX7_liveEnergy_67 rfl rfl ?_
      refine s_imul (pc' := 70) dX7_liveEnergy_69 rfl ?_
      refine s_goto (tgt := 79) dX7_liveEnergy_70 rfl ?_
      refine s_iadd (pc' := 80) dX7_liveEnergy_79 rfl ?_
      refine s_istore (pc' := 82) (ls' := [some (vR a0), some (vI a1), some (vI a2), some (vI a3), some (vI a4), some (vI (a5 + (a2 * y14))), some (vI a6), some (vI y14)]) dX7_liveEnergy_80 (by decide) rfl rfl ?_
      refine s_iinc (pc' := 85) (ls' := [some (vR a0), some (vI a1), some (vI a2), some (vI a3), some (vI a4), some (vI (a5 + (a2 * y14))), some (vI (a6 + 1)), some (vI y14)]) dX7_liveEnergy_82 rfl (by decide) rfl rfl ?_
      refine s_goto (tgt := 29) dX7_liveEnergy_85 rfl ?_
      refine s_drop 7 (ls' := [some (vR a0), some (vI a1), some (vI a2), some (vI a3), some (vI a4), some (vI (a5 + (a2 * y14))), some (vI (a6 + 1)), none]) rfl ?_
      exact V
