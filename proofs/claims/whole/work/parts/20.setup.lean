/-! ===== WakeSaver$Setup ===== -/
def shSetup (w : WS) (o : Int) : Prop := wt w o = 15 ∧ wf w o 0 = o + 1 ∧ wf w o 1 = o + 2 ∧ wf w o 2 = o + 3 ∧ wf w o 3 = o + 4 ∧ wf w o 5 = o + 5 ∧ wf w o 6 = o + 6 ∧ wf w o 7 = o + 7 ∧
  (wt w (o + 1) = 1 ∧ wt w (o + 2) = 1 ∧ wt w (o + 3) = 1 ∧ wt w (o + 4) = 1 ∧ wt w (o + 5) = 1 ∧ wt w (o + 6) = 1 ∧ wt w (o + 7) = 1) ∧
  (wl w (o + 1) = 8 ∧ wl w (o + 2) = 8 ∧ wl w (o + 3) = 8 ∧ wl w (o + 4) = 8 ∧ wl w (o + 5) = 24 ∧ wl w (o + 6) = 24 ∧ wl w (o + 7) = 24)
/-- the object o holds the setup S -/
def isS (h : AH) (o : Int) (S : Int → Int) : Prop :=
  h o 4 = S 96 ∧ h o 8 = S 97 ∧ h o 9 = S 98 ∧ h o 10 = S 99 ∧ h o 11 = S 100 ∧
  (∀ k, 0 ≤ k → k < S 96 → h (o + 2) k = S k ∧ h (o + 3) k = S (8 + k) ∧ h (o + 4) k = S (16 + k)) ∧
  (∀ t, 0 ≤ t → t < S 97 → h (o + 5) t = S (24 + t) ∧ h (o + 6) t = S (48 + t) ∧ h (o + 7) t = S (72 + t))
theorem e_X5_kinds {w : WS} {h : AH} {Q : Int → AH → Prop} {a0 : Int} (X : XI mX5_kinds 0 [some (vR a0)] [] w h Q) : CI mX5_kinds [vR a0] w h Q := CA.of (M := mX5_kinds) (by decide) rfl (Nat.le_of_ble_eq_true rfl) X
set_option maxRecDepth 20000 in
theorem r_X5_kinds_0 {w : WS} {h : AH} {Q : Int → AH → Prop} {a0 : Int} (V : (wt w a0 = 15 ∧ Q (h a0 4) h)) : XI mX5_kinds 0 [some (vR a0)] [] w h Q := by
  refine s_aload_n (pc' := 1) (x := a0) dX5_kinds_0 rfl rfl ?_
  obtain ⟨z1, V⟩ := V
  refine s_get (pc' := 4) (v := vI (h a0 4)) (kc := 5) (i := 4) dX5_kinds_1 clX5 (by decide) fl_5_4 z1 (fun _ => rfl) rfl ?_
  exact s_iret dX5_kinds_4 rfl ⟨_, rfl, rfl, V⟩
theorem e_X5_timers {w : WS} {h : AH} {Q : Int → AH → Prop} {a0 : Int} (X : XI mX5_timers 0 [some (vR a0)] [] w h Q) : CI mX5_timers [vR a0] w h Q := CA.of (M := mX5_timers) (by decide) rfl (Nat.le_of_ble_eq_true rfl) X
set_option maxRecDepth 20000 in
theorem r_X5_timers_0 {w : WS} {h : AH} {Q : Int → AH → Prop} {a0 : Int} (V : (wt w a0 = 15 ∧ Q (h a0 8) h)) : XI mX5_timers 0 [some (vR a0)] [] w h Q := by
  refine s_aload_n (pc' := 1) (x := a0) dX5_timers_0 rfl rfl ?_
  obtain ⟨z1, V⟩ := V
  refine s_get (pc' := 4) (v := vI (h a0 8)) (kc := 5) (i := 8) dX5_timers_1 clX5 (by decide) fl_5_8 z1 (fun _ => rfl) rfl ?_
  exact s_iret dX5_timers_4 rfl ⟨_, rfl, rfl, V⟩
theorem e_X5_length {w : WS} {h : AH} {Q : Int → AH → Prop} {a0 : Int} (X : XI mX5_length 0 [some (vR a0)] [] w h Q) : CI mX5_length [vR a0] w h Q := CA.of (M := mX5_length) (by decide) rfl (Nat.le_of_ble_eq_true rfl) X
set_option maxRecDepth 20000 in
theorem r_X5_length_0 {w : WS} {h : AH} {Q : Int → AH → Prop} {a0 : Int} (V : (wt w a0 = 15 ∧ Q (h a0 9) h)) : XI mX5_length 0 [some (vR a0)] [] w h Q := by
  refine s_aload_n (pc' := 1) (x := a0) dX5_length_0 rfl rfl ?_
  obtain ⟨z1, V⟩ := V
  refine s_get (pc' := 4) (v := vI (h a0 9)) (kc := 5) (i := 9) dX5_length_1 clX5 (by decide) fl_5_9 z1 (fun _ => rfl) rfl ?_
  exact s_iret dX5_length_4 rfl ⟨_, rfl, rfl, V⟩
theorem e_X5_wakePrice {w : WS} {h : AH} {Q : Int → AH → Prop} {a0 : Int} (X : XI mX5_wakePrice 0 [some (vR a0)] [] w h Q) : CI mX5_wakePrice [vR a0] w h Q := CA.of (M := mX5_wakePrice) (by decide) rfl (Nat.le_of_ble_eq_true rfl) X
set_option maxRecDepth 20000 in
theorem r_X5_wakePrice_0 {w : WS} {h : AH} {Q : Int → AH → Prop} {a0 : Int} (V : (wt w a0 = 15 ∧ Q (h a0 10) h)) : XI mX5_wakePrice 0 [some (vR a0)] [] w h Q := by
  refine s_aload_n (pc' := 1) (x := a0) dX5_wakePrice_0 rfl rfl ?_
  obtain ⟨z1, V⟩ := V
  refine s_get (pc' := 4) (v := vI (h a0 10)) (kc := 5) (i := 10) dX5_wakePrice_1 clX5 (by decide) fl_5_10 z1 (fun _ => rfl) rfl ?_
  exact s_iret dX5_wakePrice_4 rfl ⟨_, rfl, rfl, V⟩
theorem e_X5_stay {w : WS} {h : AH} {Q : Int → AH → Prop} {a0 : Int} (X : XI mX5_stay 0 [some (vR a0)] [] w h Q) : CI mX5_stay [vR a0] w h Q := CA.of (M := mX5_stay) (by decide) rfl (Nat.le_of_ble_eq_true rfl) X
set_option maxRecDepth 20000 in
theorem r_X5_stay_0 {w : WS} {h : AH} {Q : Int → AH → Prop} {a0 : Int} (V : (wt w a0 = 15 ∧ Q (h a0 11) h)) : XI mX5_stay 0 [some (vR a0)] [] w h Q := by
  refine s_aload_n (pc' := 1) (x := a0) dX5_stay_0 rfl rfl ?_
  obtain ⟨z1, V⟩ := V
  refine s_get (pc' := 4) (v := vI (h a0 11)) (kc := 5) (i := 11) dX5_stay_1 clX5 (by decide) fl_5_11 z1 (fun _ => rfl) rfl ?_
  exact s_iret dX5_stay_4 rfl ⟨_, rfl, rfl, V⟩
theorem e_X5_setLength {w : WS} {h : AH} {Q : AH → Prop} {a0 a1 : Int} (X : XV mX5_setLength 0 [some (vR a0), some (vI a1)] [] w h Q) : CV mX5_setLength [vR a0, vI a1] w h Q := CA.of (M := mX5_setLength) (by decide) rfl (Nat.le_of_ble_eq_true rfl) X
set_option maxRecDepth 20000 in
theorem r_X5_setLength_0 {w : WS} {h : AH} {Q : AH → Prop} {a0 a1 : Int} (V : (wt w a0 = 15 ∧ (∀ h2, h2 = st h a0 9 a1 → Q h2))) : XV mX5_setLength 0 [some (vR a0), some (vI a1)] [] w h Q := by
  refine s_aload_n (pc' := 1) (x := a0) dX5_setLength_0 rfl rfl ?_
  refine s_iload_n (pc' := 2) (x := a1) dX5_setLength_1 rfl rfl ?_
  obtain ⟨z1, V⟩ := V
  refine s_put (pc' := 5) (v := vI a1) (x := a1) (kc := 5) (i := 9) dX5_setLength_2 clX5 (by decide) fl_5_9 rfl z1 (fun E => nar_int E _) (fun _ _ => rfl) (j0 := 9) rfl rfl ?_
  obtain ⟨h2, e3⟩ : ∃ q, q = st h a0 9 a1 := ⟨_, rfl⟩
  rw [← e3]
  have V := V h2 e3
  exact s_vret dX5_setLength_5 rfl ⟨rfl, rfl, V⟩
theorem e_X5_setPrice {w : WS} {h : AH} {Q : AH → Prop} {a0 a1 : Int} (X : XV mX5_setPrice 0 [some (vR a0), some (vI a1)] [] w h Q) : CV mX5_setPrice [vR a0, vI a1] w h Q := CA.of (M := mX5_setPrice) (by decide) rfl (Nat.le_of_ble_eq_true rfl) X
set_option maxRecDepth 20000 in
theorem r_X5_setPrice_0 {w : WS} {h : AH} {Q : AH → Prop} {a0 a1 : Int} (V : (wt w a0 = 15 ∧ (∀ h2, h2 = st h a0 10 a1 → Q h2))) : XV mX5_setPrice 0 [some (vR a0), some (vI a1)] [] w h Q := by
  refine s_aload_n (pc' := 1) (x := a0) dX5_setPrice_0 rfl rfl ?_
  refine s_iload_n (pc' := 2) (x := a1) dX5_setPrice_1 rfl rfl ?_
  obtain ⟨z1, V⟩ := V
  refine s_put (pc' := 5) (v := vI a1) (x := a1) (kc := 5) (i := 10) dX5_setPrice_2 clX5 (by decide) fl_5_10 rfl z1 (fun E => nar_int E _) (fun _ _ => rfl) (j0 := 10) rfl rfl ?_
  obtain ⟨h2, e3⟩ : ∃ q, q = st h a0 10 a1 := ⟨_, rfl⟩
  rw [← e3]
  have V := V h2 e3
  exact s_vret dX5_setPrice_5 rfl ⟨rfl, rfl, V⟩
theorem e_X5_setStay {w : WS} {h : AH} {Q : AH → Prop} {a0 a1 : Int} (X : XV mX5_setStay 0 [some (vR a0), some (vI a1)] [] w h Q) : CV mX5_setStay [vR a0, vI a1] w h Q := CA.of (M := mX5_setStay) (by decide) rfl (Nat.le_of_ble_eq_true rfl) X
set_option maxRecDepth 20000 in
theorem r_X5_setStay_0 {w : WS} {h : AH} {Q : AH → Prop} {a0 a1 : Int} (V : (wt w a0 = 15 ∧ (∀ h2, h2 = st h a0 11 a1 → Q h2))) : XV mX5_setStay 0 [some (vR a0), some (vI a1)] [] w h Q := by
  refine s_aload_n (pc' := 1) (x := a0) dX5_setStay_0 rfl rfl ?_
  refine s_iload_n (pc' := 2) (x := a1) dX5_setStay_1 rfl rfl ?_
  obtain ⟨z1, V⟩ := V
  refine s_put (pc' := 5) (v := vI a1) (x := a1) (kc := 5) (i := 11) dX5_setStay_2 clX5 (by decide) fl_5_11 rfl z1 (fun E => nar_int E _) (fun _ _ => rfl) (j0 := 11) rfl rfl ?_
  obtain ⟨h2, e3⟩ : ∃ q, q = st h a0 11 a1 := ⟨_, rfl⟩
  rw [← e3]
  have V := V h2 e3
  exact s_vret dX5_setStay_5 rfl ⟨rfl, rfl, V⟩
theorem e_X5_hasKind {w : WS} {h : AH} {Q : Int → AH → Prop} {a0 a1 : Int} (X : XI mX5_hasKind 0 [some (vR a0), some (vI a1)] [] w h Q) : CI mX5_hasKind [vR a0, vI a1] w h Q := CA.of (M := mX5_hasKind) (by decide) rfl (Nat.le_of_ble_eq_true rfl) X
set_option maxRecDepth 20000 in
theorem r_X5_hasKind_0 {w : WS} {h : AH} {Q : Int → AH → Prop} {a0 a1 : Int} (V : (inR a1 ∧ ((a1 < 0 → Q 0 h) ∧ (¬ a1 < 0 → (wt w a0 = 15 ∧ (inR (h a0 4) ∧ (((h a0 4) ≤ a1 → Q 0 h) ∧ (¬ (h a0 4) ≤ a1 → Q 1 h)))))))) : XI mX5_hasKind 0 [some (vR a0), some (vI a1)] [] w h Q := by
  refine s_iload_n (pc' := 1) (x := a1) dX5_hasKind_0 rfl rfl ?_
  obtain ⟨z1, V⟩ := V
  obtain ⟨V6, V7⟩ := V
  refine s_if_lt (pc' := 4) (tgt := 16) dX5_hasKind_1 rfl rfl z1 (fun c => ?_) (fun c => ?_)
  · have V := V6 c
    refine s_iconst (pc' := 17) dX5_hasKind_16 rfl ?_
    exact s_zret dX5_hasKind_17 rfl (by decide) ⟨_, rfl, rfl, V⟩
  · have V := V7 c
    refine s_iload_n (pc' := 5) (x := a1) dX5_hasKind_4 rfl rfl ?_
    refine s_aload_n (pc' := 6) (x := a0) dX5_hasKind_5 rfl rfl ?_
    obtain ⟨z2, V⟩ := V
    refine s_get (pc' := 9) (v := vI (h a0 4)) (kc := 5) (i := 4) dX5_hasKind_6 clX5 (by decide) fl_5_4 z2 (fun _ => rfl) rfl ?_
    obtain ⟨z3, V⟩ := V
    obtain ⟨V4, V5⟩ := V
    refine s_icmp_ge (pc' := 12) (tgt := 16) dX5_hasKind_9 rfl rfl z1 z3 (fun c => ?_) (fun c => ?_)
    · have V := V4 c
      refine s_iconst (pc' := 17) dX5_hasKind_16 rfl ?_
      exact s_zret dX5_hasKind_17 rfl (by decide) ⟨_, rfl, rfl, V⟩
    · have V := V5 c
      refine s_iconst (pc' := 13) dX5_hasKind_12 rfl ?_
      refine s_goto (tgt := 17) dX5_hasKind_13 rfl ?_
      exact s_zret dX5_hasKind_17 rfl (by decide) ⟨_, rfl, rfl, V⟩
theorem e_X5_hasTimer {w : WS} {h : AH} {Q : Int → AH → Prop} {a0 a1 : Int} (X : XI mX5_hasTimer 0 [some (vR a0), some (vI a1)] [] w h Q) : CI mX5_hasTimer [vR a0, vI a1] w h Q := CA.of (M := mX5_hasTimer) (by decide) rfl (Nat.le_of_ble_eq_true rfl) X
set_option maxRecDepth 20000 in
theorem r_X5_hasTimer_0 {w : WS} {h : AH} {Q : Int → AH → Prop} {a0 a1 : Int} (V : (inR a1 ∧ ((a1 < 0 → Q 0 h) ∧ (¬ a1 < 0 → (wt w a0 = 15 ∧ (inR (h a0 8) ∧ (((h a0 8) ≤ a1 → Q 0 h) ∧ (¬ (h a0 8) ≤ a1 → Q 1 h)))))))) : XI mX5_hasTimer 0 [some (vR a0), some (vI a1)] [] w h Q := by
  refine s_iload_n (pc' := 1) (x := a1) dX5_hasTimer_0 rfl rfl ?_
  obtain ⟨z1, V⟩ := V
  obtain ⟨V6, V7⟩ := V
  refine s_if_lt (pc' := 4) (tgt := 16) dX5_hasTimer_1 rfl rfl z1 (fun c => ?_) (fun c => ?_)
  · have V := V6 c
    refine s_iconst (pc' := 17) dX5_hasTimer_16 rfl ?_
    exact s_zret dX5_hasTimer_17 rfl (by decide) ⟨_, rfl, rfl, V⟩
  · have V := V7 c
    refine s_iload_n (pc' := 5) (x := a1) dX5_hasTimer_4 rfl rfl ?_
    refine s_aload_n (pc' := 6) (x := a0) dX5_hasTimer_5 rfl rfl ?_
    obtain ⟨z2, V⟩ := V
    refine s_get (pc' := 9) (v := vI (h a0 8)) (kc := 5) (i := 8) dX5_hasTimer_6 clX5 (by decide) fl_5_8 z2 (fun _ => rfl) rfl ?_
    obtain ⟨z3, V⟩ := V
    obtain ⟨V4, V5⟩ := V
    refine s_icmp_ge (pc' := 12) (tgt := 16) dX5_hasTimer_9 rfl rfl z1 z3 (fun c => ?_) (fun c => ?_)
    · have V := V4 c
      refine s_iconst (pc' := 17) dX5_hasTimer_16 rfl ?_
      exact s_zret dX5_hasTimer_17 rfl (by decide) ⟨_, rfl, rfl, V⟩
    · have V := V5 c
      refine s_iconst (pc' := 13) dX5_hasTimer_12 rfl ?_
      refine s_goto (tgt := 17) dX5_hasTimer_13 rfl ?_
      exact s_zret dX5_hasTimer_17 rfl (by decide) ⟨_, rfl, rfl, V⟩
section
variable {w : WS} {h : AH} {o k : Int}
theorem c_X5_kinds (s0 : wt w o = 15) : CI mX5_kinds [vR o] w h (fun x h' => x = h o 4 ∧ h' = h) := e_X5_kinds (r_X5_kinds_0 ⟨s0, rfl, rfl⟩)
theorem c_X5_timers (s0 : wt w o = 15) : CI mX5_timers [vR o] w h (fun x h' => x = h o 8 ∧ h' = h) := e_X5_timers (r_X5_timers_0 ⟨s0, rfl, rfl⟩)
theorem c_X5_length (s0 : wt w o = 15) : CI mX5_length [vR o] w h (fun x h' => x = h o 9 ∧ h' = h) := e_X5_length (r_X5_length_0 ⟨s0, rfl, rfl⟩)
theorem c_X5_wakePrice (s0 : wt w o = 15) : CI mX5_wakePrice [vR o] w h (fun x h' => x = h o 10 ∧ h' = h) := e_X5_wakePrice (r_X5_wakePrice_0 ⟨s0, rfl, rfl⟩)
theorem c_X5_stay (s0 : wt w o = 15) : CI mX5_stay [vR o] w h (fun x h' => x = h o 11 ∧ h' = h) := e_X5_stay (r_X5_stay_0 ⟨s0, rfl, rfl⟩)
theorem c_X5_setLength (s0 : wt w o = 15) : CV mX5_setLength [vR o, vI k] w h (fun h' => h' = st h o 9 k) := e_X5_setLength (r_X5_setLength_0 ⟨s0, fun _ e => e⟩)
theorem c_X5_setPrice (s0 : wt w o = 15) : CV mX5_setPrice [vR o, vI k] w h (fun h' => h' = st h o 10 k) := e_X5_setPrice (r_X5_setPrice_0 ⟨s0, fun _ e => e⟩)
theorem c_X5_setStay (s0 : wt w o = 15) : CV mX5_setStay [vR o, vI k] w h (fun h' => h' = st h o 11 k) := e_X5_setStay (r_X5_setStay_0 ⟨s0, fun _ e => e⟩)
theorem c_X5_hasKind (s0 : wt w o = 15) (hk : inR k) (hn : inR (h o 4)) : CI mX5_hasKind [vR o, vI k] w h (fun x h' => x = (if 0 ≤ k ∧ k < h o 4 then 1 else 0) ∧ h' = h) := by
  refine e_X5_hasKind (r_X5_hasKind_0 ⟨hk, fun c => ⟨?_, rfl⟩, fun c => ⟨s0, hn, fun c2 => ⟨?_, rfl⟩, fun c2 => ⟨?_, rfl⟩⟩⟩)
  · rw [if_neg (by omega)]
  · rw [if_neg (by omega)]
  · rw [if_pos (by omega)]
theorem c_X5_hasTimer (s0 : wt w o = 15) (hk : inR k) (hn : inR (h o 8)) : CI mX5_hasTimer [vR o, vI k] w h (fun x h' => x = (if 0 ≤ k ∧ k < h o 8 then 1 else 0) ∧ h' = h) := by
  refine e_X5_hasTimer (r_X5_hasTimer_0 ⟨hk, fun c => ⟨?_, rfl⟩, fun c => ⟨s0, hn, fun c2 => ⟨?_, rfl⟩, fun c2 => ⟨?_, rfl⟩⟩⟩)
  · rw [if_neg (by omega)]
  · rw [if_neg (by omega)]
  · rw [if_pos (by omega)]
end
theorem e_X5_parentOf {w : WS} {h : AH} {Q : Int → AH → Prop} {a0 a1 : Int} (X : XI mX5_parentOf 0 [some (vR a0), some (vI a1)] [] w h Q) : CI mX5_parentOf [vR a0, vI a1] w h Q := CA.of (M := mX5_parentOf) (by decide) rfl (Nat.le_of_ble_eq_true rfl) X
set_option maxRecDepth 20000 in
theorem r_X5_parentOf_0 {w : WS} {h : AH} {Q : Int → AH → Prop} {a0 a1 : Int} (V : (wt w a0 = 15 ∧ inR a1 ∧ inR (h a0 4) ∧ ((¬ (0 ≤ a1 ∧ a1 < h a0 4) → Q (-1) h) ∧ ((0 ≤ a1 ∧ a1 < h a0 4) → (wt w (wf w a0 1) = 1 ∧ 0 ≤ a1 ∧ a1 < wl w (wf w a0 1) ∧ Q (h (wf w a0 1) a1) h))))) : XI mX5_parentOf 0 [some (vR a0), some (vI a1)] [] w h Q := by
  refine s_aload_n (pc' := 1) (x := a0) dX5_parentOf_0 rfl rfl ?_
  refine s_iload_n (pc' := 2) (x := a1) dX5_parentOf_1 rfl rfl ?_
  obtain ⟨z1, z2, z3, V⟩ := V
  refine s_callV (pc' := 5) (av := [vI a1]) (a := a0) (sk := []) (kc := 5) dX5_parentOf_2 ml_5_52 okX5_hasKind oiX5_hasKind (by decide) (NF := 12) rfl z1 rfl (Nat.le_of_ble_eq_true rfl) (Nat.le_refl 0) (Nat.le_refl 0) rfl (CI.eon (c_X5_hasKind z1 z2 z3) ?_)
  obtain ⟨V7, V8⟩ := V
  refine s_ifeq_b (pc' := 8) (tgt := 17) dX5_parentOf_5 rfl rfl (fun c => ?_) (fun c => ?_)
  · have V := V7 c
    refine s_iconst (pc' := 18) dX5_parentOf_17 rfl ?_
    exact s_iret dX5_parentOf_18 rfl ⟨_, rfl, rfl, V⟩
  · have V := V8 c
    refine s_aload_n (pc' := 9) (x := a0) dX5_parentOf_8 rfl rfl ?_
    refine s_get (pc' := 12) (v := vR (wf w a0 1)) (kc := 5) (i := 1) dX5_parentOf_9 clX5 (by decide) fl_5_1 z1 (fun _ => rfl) rfl ?_
    refine s_iload_n (pc' := 13) (x := a1) dX5_parentOf_12 rfl rfl ?_
    obtain ⟨z4, z5, z6, V⟩ := V
    refine s_iald (pc' := 14) dX5_parentOf_13 z4 z5 z6 rfl ?_
    refine s_goto (tgt := 18) dX5_parentOf_14 rfl ?_
    exact s_iret dX5_parentOf_18 rfl ⟨_, rfl, rfl, V⟩
theorem e_X5_ownSlack {w : WS} {h : AH} {Q : Int → AH → Prop} {a0 a1 : Int} (X : XI mX5_ownSlack 0 [some (vR a0), some (vI a1)] [] w h Q) : CI mX5_ownSlack [vR a0, vI a1] w h Q := CA.of (M := mX5_ownSlack) (by decide) rfl (Nat.le_of_ble_eq_true rfl) X
set_option maxRecDepth 20000 in
theorem r_X5_ownSlack_0 {w : WS} {h : AH} {Q : Int → AH → Prop} {a0 a1 : Int} (V : (wt w a0 = 15 ∧ inR a1 ∧ inR (h a0 4) ∧ ((¬ (0 ≤ a1 ∧ a1 < h a0 4) → Q (-1) h) ∧ ((0 ≤ a1 ∧ a1 < h a0 4) → (wt w (wf w a0 2) = 1 ∧ 0 ≤ a1 ∧ a1 < wl w (wf w a0 2) ∧ Q (h (wf w a0 2) a1) h))))) : XI mX5_ownSlack 0 [some (vR a0), some (vI a1)] [] w h Q := by
  refine s_aload_n (pc' := 1) (x := a0) dX5_ownSlack_0 rfl rfl ?_
  refine s_iload_n (pc' := 2) (x := a1) dX5_ownSlack_1 rfl rfl ?_
  obtain ⟨z1, z2, z3, V⟩ := V
  refine s_callV (pc' := 5) (av := [vI a1]) (a := a0) (sk := []) (kc := 5) dX5_ownSlack_2 ml_5_52 okX5_hasKind oiX5_hasKind (by decide) (NF := 12) rfl z1 rfl (Nat.le_of_ble_eq_true rfl) (Nat.le_refl 0) (Nat.le_refl 0) rfl (CI.eon (c_X5_hasKind z1 z2 z3) ?_)
  obtain ⟨V7, V8⟩ := V
  refine s_ifeq_b (pc' := 8) (tgt := 17) dX5_ownSlack_5 rfl rfl (fun c => ?_) (fun c => ?_)
  · have V := V7 c
    refine s_iconst (pc' := 18) dX5_ownSlack_17 rfl ?_
    exact s_iret dX5_ownSlack_18 rfl ⟨_, rfl, rfl, V⟩
  · have V := V8 c
    refine s_aload_n (pc' := 9) (x := a0) dX5_ownSlack_8 rfl rfl ?_
    refine s_get (pc' := 12) (v := vR (wf w a0 2)) (kc := 5) (i := 2) dX5_ownSlack_9 clX5 (by decide) fl_5_2 z1 (fun _ => rfl) rfl ?_
    refine s_iload_n (pc' := 13) (x := a1) dX5_ownSlack_12 rfl rfl ?_
    obtain ⟨z4, z5, z6, V⟩ := V
    refine s_iald (pc' := 14) dX5_ownSlack_13 z4 z5 z6 rfl ?_
    refine s_goto (tgt := 18) dX5_ownSlack_14 rfl ?_
    exact s_iret dX5_ownSlack_18 rfl ⟨_, rfl, rfl, V⟩
theorem e_X5_ownWeight {w : WS} {h : AH} {Q : Int → AH → Prop} {a0 a1 : Int} (X : XI mX5_ownWeight 0 [some (vR a0), some (vI a1)] [] w h Q) : CI mX5_ownWeight [vR a0, vI a1] w h Q := CA.of (M := mX5_ownWeight) (by decide) rfl (Nat.le_of_ble_eq_true rfl) X
set_option maxRecDepth 20000 in
theorem r_X5_ownWeight_0 {w : WS} {h : AH} {Q : Int → AH → Prop} {a0 a1 : Int} (V : (wt w a0 = 15 ∧ inR a1 ∧ inR (h a0 4) ∧ ((¬ (0 ≤ a1 ∧ a1 < h a0 4) → Q (-1) h) ∧ ((0 ≤ a1 ∧ a1 < h a0 4) → (wt w (wf w a0 3) = 1 ∧ 0 ≤ a1 ∧ a1 < wl w (wf w a0 3) ∧ Q (h (wf w a0 3) a1) h))))) : XI mX5_ownWeight 0 [some (vR a0), some (vI a1)] [] w h Q := by
  refine s_aload_n (pc' := 1) (x := a0) dX5_ownWeight_0 rfl rfl ?_
  refine s_iload_n (pc' := 2) (x := a1) dX5_ownWeight_1 rfl rfl ?_
  obtain ⟨z1, z2, z3, V⟩ := V
  refine s_callV (pc' := 5) (av := [vI a1]) (a := a0) (sk := []) (kc := 5) dX5_ownWeight_2 ml_5_52 okX5_hasKind oiX5_hasKind (by decide) (NF := 12) rfl z1 rfl (Nat.le_of_ble_eq_true rfl) (Nat.le_refl 0) (Nat.le_refl 0) rfl (CI.eon (c_X5_hasKind z1 z2 z3) ?_)
  obtain ⟨V7, V8⟩ := V
  refine s_ifeq_b (pc' := 8) (tgt := 17) dX5_ownWeight_5 rfl rfl (fun c => ?_) (fun c => ?_)
  · have V := V7 c
    refine s_iconst (pc' := 18) dX5_ownWeight_17 rfl ?_
    exact s_iret dX5_ownWeight_18 rfl ⟨_, rfl, rfl, V⟩
  · have V := V8 c
    refine s_aload_n (pc' := 9) (x := a0) dX5_ownWeight_8 rfl rfl ?_
    refine s_get (pc' := 12) (v := vR (wf w a0 3)) (kc := 5) (i := 3) dX5_ownWeight_9 clX5 (by decide) fl_5_3 z1 (fun _ => rfl) rfl ?_
    refine s_iload_n (pc' := 13) (x := a1) dX5_ownWeight_12 rfl rfl ?_
    obtain ⟨z4, z5, z6, V⟩ := V
    refine s_iald (pc' := 14) dX5_ownWeight_13 z4 z5 z6 rfl ?_
    refine s_goto (tgt := 18) dX5_ownWeight_14 rfl ?_
    exact s_iret dX5_ownWeight_18 rfl ⟨_, rfl, rfl, V⟩
theorem e_X5_setSlack {w : WS} {h : AH} {Q : AH → Prop} {a0 a1 a2 : Int} (X : XV mX5_setSlack 0 [some (vR a0), some (vI a1), some (vI a2)] [] w h Q) : CV mX5_setSlack [vR a0, vI a1, vI a2] w h Q := CA.of (M := mX5_setSlack) (by decide) rfl (Nat.le_of_ble_eq_true rfl) X
set_option maxRecDepth 20000 in
theorem r_X5_setSlack_0 {w : WS} {h : AH} {Q : AH → Prop} {a0 a1 a2 : Int} (V : (wt w a0 = 15 ∧ inR a1 ∧ inR (h a0 4) ∧ ((¬ (0 ≤ a1 ∧ a1 < h a0 4) → Q h) ∧ ((0 ≤ a1 ∧ a1 < h a0 4) → (wt w (wf w a0 2) = 1 ∧ 0 ≤ a1 ∧ a1 < wl w (wf w a0 2) ∧ (∀ h7, h7 = st h (wf w a0 2) a1 a2 → Q h7)))))) : XV mX5_setSlack 0 [some (vR a0), some (vI a1), some (vI a2)] [] w h Q := by
  refine s_aload_n (pc' := 1) (x := a0) dX5_setSlack_0 rfl rfl ?_
  refine s_iload_n (pc' := 2) (x := a1) dX5_setSlack_1 rfl rfl ?_
  obtain ⟨z1, z2, z3, V⟩ := V
  refine s_callV (pc' := 5) (av := [vI a1]) (a := a0) (sk := []) (kc := 5) dX5_setSlack_2 ml_5_52 okX5_hasKind oiX5_hasKind (by decide) (NF := 12) rfl z1 rfl (Nat.le_of_ble_eq_true rfl) (Nat.le_refl 0) (Nat.le_refl 0) rfl (CI.eon (c_X5_hasKind z1 z2 z3) ?_)
  obtain ⟨V9, V10⟩ := V
  refine s_ifeq_b (pc' := 8) (tgt := 15) dX5_setSlack_5 rfl rfl (fun c => ?_) (fun c => ?_)
  · have V := V9 c
    exact s_vret dX5_setSlack_15 rfl ⟨rfl, rfl, V⟩
  · have V := V10 c
    refine s_aload_n (pc' := 9) (x := a0) dX5_setSlack_8 rfl rfl ?_
    refine s_get (pc' := 12) (v := vR (wf w a0 2)) (kc := 5) (i := 2) dX5_setSlack_9 clX5 (by decide) fl_5_2 z1 (fun _ => rfl) rfl ?_
    refine s_iload_n (pc' := 13) (x := a1) dX5_setSlack_12 rfl rfl ?_
    refine s_iload_n (pc' := 14) (x := a2) dX5_setSlack_13 rfl rfl ?_
    obtain ⟨z4, z5, z6, V⟩ := V
    refine s_iast (pc' := 15) dX5_setSlack_14 z4 z5 z6 rfl ?_
    obtain ⟨h7, e8⟩ : ∃ q, q = st h (wf w a0 2) a1 a2 := ⟨_, rfl⟩
    rw [← e8]
    have V := V h7 e8
    exact s_vret dX5_setSlack_15 rfl ⟨rfl, rfl, V⟩
theorem e_X5_kindOfTimer {w : WS} {h : AH} {Q : Int → AH → Prop} {a0 a1 : Int} (X : XI mX5_kindOfTimer 0 [some (vR a0), some (vI a1)] [] w h Q) : CI mX5_kindOfTimer [vR a0, vI a1] w h Q := CA.of (M := mX5_kindOfTimer) (by decide) rfl (Nat.le_of_ble_eq_true rfl) X
set_option maxRecDepth 20000 in
theorem r_X5_kindOfTimer_0 {w : WS} {h : AH} {Q : Int → AH → Prop} {a0 a1 : Int} (V : (wt w a0 = 15 ∧ inR a1 ∧ inR (h a0 8) ∧ ((¬ (0 ≤ a1 ∧ a1 < h a0 8) → Q (-1) h) ∧ ((0 ≤ a1 ∧ a1 < h a0 8) → (wt w (wf w a0 5) = 1 ∧ 0 ≤ a1 ∧ a1 < wl w (wf w a0 5) ∧ Q (h (wf w a0 5) a1) h))))) : XI mX5_kindOfTimer 0 [some (vR a0), some (vI a1)] [] w h Q := by
  refine s_aload_n (pc' := 1) (x := a0) dX5_kindOfTimer_0 rfl rfl ?_
  refine s_iload_n (pc' := 2) (x := a1) dX5_kindOfTimer_1 rfl rfl ?_
  obtain ⟨z1, z2, z3, V⟩ := V
  refine s_callV (pc' := 5) (av := [vI a1]) (a := a0) (sk := []) (kc := 5) dX5_kindOfTimer_2 ml_5_63 okX5_hasTimer oiX5_hasTimer (by decide) (NF := 12) rfl z1 rfl (Nat.le_of_ble_eq_true rfl) (Nat.le_refl 0) (Nat.le_refl 0) rfl (CI.eon (c_X5_hasTimer z1 z2 z3) ?_)
  obtain ⟨V7, V8⟩ := V
  refine s_ifeq_b (pc' := 8) (tgt := 17) dX5_kindOfTimer_5 rfl rfl (fun c => ?_) (fun c => ?_)
  · have V := V7 c
    refine s_iconst (pc' := 18) dX5_kindOfTimer_17 rfl ?_
    exact s_iret dX5_kindOfTimer_18 rfl ⟨_, rfl, rfl, V⟩
  · have V := V8 c
    refine s_aload_n (pc' := 9) (x := a0) dX5_kindOfTimer_8 rfl rfl ?_
    refine s_get (pc' := 12) (v := vR (wf w a0 5)) (kc := 5) (i := 5) dX5_kindOfTimer_9 clX5 (by decide) fl_5_5 z1 (fun _ => rfl) rfl ?_
    refine s_iload_n (pc' := 13) (x := a1) dX5_kindOfTimer_12 rfl rfl ?_
    obtain ⟨z4, z5, z6, V⟩ := V
    refine s_iald (pc' := 14) dX5_kindOfTimer_13 z4 z5 z6 rfl ?_
    refine s_goto (tgt := 18) dX5_kindOfTimer_14 rfl ?_
    exact s_iret dX5_kindOfTimer_18 rfl ⟨_, rfl, rfl, V⟩
theorem e_X5_periodOf {w : WS} {h : AH} {Q : Int → AH → Prop} {a0 a1 : Int} (X : XI mX5_periodOf 0 [some (vR a0), some (vI a1)] [] w h Q) : CI mX5_periodOf [vR a0, vI a1] w h Q := CA.of (M := mX5_periodOf) (by decide) rfl (Nat.le_of_ble_eq_true rfl) X
set_option maxRecDepth 20000 in
theorem r_X5_periodOf_0 {w : WS} {h : AH} {Q : Int → AH → Prop} {a0 a1 : Int} (V : (wt w a0 = 15 ∧ inR a1 ∧ inR (h a0 8) ∧ ((¬ (0 ≤ a1 ∧ a1 < h a0 8) → Q 0 h) ∧ ((0 ≤ a1 ∧ a1 < h a0 8) → (wt w (wf w a0 6) = 1 ∧ 0 ≤ a1 ∧ a1 < wl w (wf w a0 6) ∧ Q (h (wf w a0 6) a1) h))))) : XI mX5_periodOf 0 [some (vR a0), some (vI a1)] [] w h Q := by
  refine s_aload_n (pc' := 1) (x := a0) dX5_periodOf_0 rfl rfl ?_
  refine s_iload_n (pc' := 2) (x := a1) dX5_periodOf_1 rfl rfl ?_
  obtain ⟨z1, z2, z3, V⟩ := V
  refine s_callV (pc' := 5) (av := [vI a1]) (a := a0) (sk := []) (kc := 5) dX5_periodOf_2 ml_5_63 okX5_hasTimer oiX5_hasTimer (by decide) (NF := 12) rfl z1 rfl (Nat.le_of_ble_eq_true rfl) (Nat.le_refl 0) (Nat.le_refl 0) rfl (CI.eon (c_X5_hasTimer z1 z2 z3) ?_)
  obtain ⟨V7, V8⟩ := V
  refine s_ifeq_b (pc' := 8) (tgt := 17) dX5_periodOf_5 rfl rfl (fun c => ?_) (fun c => ?_)
  · have V := V7 c
    refine s_iconst (pc' := 18) dX5_periodOf_17 rfl ?_
    exact s_iret dX5_periodOf_18 rfl ⟨_, rfl, rfl, V⟩
  · have V := V8 c
    refine s_aload_n (pc' := 9) (x := a0) dX5_periodOf_8 rfl rfl ?_
    refine s_get (pc' := 12) (v := vR (wf w a0 6)) (kc := 5) (i := 6) dX5_periodOf_9 clX5 (by decide) fl_5_6 z1 (fun _ => rfl) rfl ?_
    refine s_iload_n (pc' := 13) (x := a1) dX5_periodOf_12 rfl rfl ?_
    obtain ⟨z4, z5, z6, V⟩ := V
    refine s_iald (pc' := 14) dX5_periodOf_13 z4 z5 z6 rfl ?_
    refine s_goto (tgt := 18) dX5_periodOf_14 rfl ?_
    exact s_iret dX5_periodOf_18 rfl ⟨_, rfl, rfl, V⟩
theorem e_X5_tickOf {w : WS} {h : AH} {Q : Int → AH → Prop} {a0 a1 : Int} (X : XI mX5_tickOf 0 [some (vR a0), some (vI a1)] [] w h Q) : CI mX5_tickOf [vR a0, vI a1] w h Q := CA.of (M := mX5_tickOf) (by decide) rfl (Nat.le_of_ble_eq_true rfl) X
set_option maxRecDepth 20000 in
theorem r_X5_tickOf_0 {w : WS} {h : AH} {Q : Int → AH → Prop} {a0 a1 : Int} (V : (wt w a0 = 15 ∧ inR a1 ∧ inR (h a0 8) ∧ ((¬ (0 ≤ a1 ∧ a1 < h a0 8) → Q (-1) h) ∧ ((0 ≤ a1 ∧ a1 < h a0 8) → (wt w (wf w a0 7) = 1 ∧ 0 ≤ a1 ∧ a1 < wl w (wf w a0 7) ∧ Q (h (wf w a0 7) a1) h))))) : XI mX5_tickOf 0 [some (vR a0), some (vI a1)] [] w h Q := by
  refine s_aload_n (pc' := 1) (x := a0) dX5_tickOf_0 rfl rfl ?_
  refine s_iload_n (pc' := 2) (x := a1) dX5_tickOf_1 rfl rfl ?_
  obtain ⟨z1, z2, z3, V⟩ := V
  refine s_callV (pc' := 5) (av := [vI a1]) (a := a0) (sk := []) (kc := 5) dX5_tickOf_2 ml_5_63 okX5_hasTimer oiX5_hasTimer (by decide) (NF := 12) rfl z1 rfl (Nat.le_of_ble_eq_true rfl) (Nat.le_refl 0) (Nat.le_refl 0) rfl (CI.eon (c_X5_hasTimer z1 z2 z3) ?_)
  obtain ⟨V7, V8⟩ := V
  refine s_ifeq_b (pc' := 8) (tgt := 17) dX5_tickOf_5 rfl rfl (fun c => ?_) (fun c => ?_)
  · have V := V7 c
    refine s_iconst (pc' := 18) dX5_tickOf_17 rfl ?_
    exact s_iret dX5_tickOf_18 rfl ⟨_, rfl, rfl, V⟩
  · have V := V8 c
    refine s_aload_n (pc' := 9) (x := a0) dX5_tickOf_8 rfl rfl ?_
    refine s_get (pc' := 12) (v := vR (wf w a0 7)) (kc := 5) (i := 7) dX5_tickOf_9 clX5 (by decide) fl_5_7 z1 (fun _ => rfl) rfl ?_
    refine s_iload_n (pc' := 13) (x := a1) dX5_tickOf_12 rfl rfl ?_
    obtain ⟨z4, z5, z6, V⟩ := V
    refine s_iald (pc' := 14) dX5_tickOf_13 z4 z5 z6 rfl ?_
    refine s_goto (tgt := 18) dX5_tickOf_14 rfl ?_
    exact s_iret dX5_tickOf_18 rfl ⟨_, rfl, rfl, V⟩
theorem e_X5_slackGiver {w : WS} {h : AH} {Q : Int → AH → Prop} {a0 a1 : Int} (X : XI mX5_slackGiver 0 [some (vR a0), some (vI a1), none, none] [] w h Q) : CI mX5_slackGiver [vR a0, vI a1] w h Q := CA.of (M := mX5_slackGiver) (by decide) rfl (Nat.le_of_ble_eq_true rfl) X
set_option maxRecDepth 20000 in
theorem r_X5_slackGiver_0 {w : WS} {h : AH} {Q : Int → AH → Prop} {a0 a1 : Int} (V : XI mX5_slackGiver 4 [some (vR a0), none, some (vI a1), some (vI 0)] [] w h Q) : XI mX5_slackGiver 0 [some (vR a0), some (vI a1), none, none] [] w h Q := by
  refine s_iload_n (pc' := 1) (x := a1) dX5_slackGiver_0 rfl rfl ?_
  refine s_istore_n (pc' := 2) (ls' := [some (vR a0), some (vI a1), some (vI a1), none]) dX5_slackGiver_1 (by decide) rfl rfl ?_
  refine s_iconst (pc' := 3) dX5_slackGiver_2 rfl ?_
  refine s_istore_n (pc' := 4) (ls' := [some (vR a0), some (vI a1), some (vI a1), some (vI 0)]) dX5_slackGiver_3 (by decide) rfl rfl ?_
  refine s_drop 1 (ls' := [some (vR a0), none, some (vI a1), some (vI 0)]) rfl ?_
  exact V
set_option maxRecDepth 20000 in
theorem r_X5_slackGiver_4 {w : WS} {h : AH} {Q : Int → AH → Prop} {a0 a2 a3 : Int} (V : (inR a3 ∧ ((8 ≤ a3 → Q (-1) h) ∧ (¬ 8 ≤ a3 → (wt w a0 = 15 ∧ inR a2 ∧ inR (h a0 4) ∧ ((¬ (0 ≤ a2 ∧ a2 < h a0 4) → Q (-1) h) ∧ ((0 ≤ a2 ∧ a2 < h a0 4) → (wt w (wf w a0 2) = 1 ∧ 0 ≤ a2 ∧ a2 < wl w (wf w a0 2) ∧ (inR (h (wf w a0 2) a2) ∧ (((h (wf w a0 2) a2) = (-1) → (wt w (wf w a0 1) = 1 ∧ a2 < wl w (wf w a0 1) ∧ XI mX5_slackGiver 4 [some (vR a0), none, some (vI (h (wf w a0 1) a2)), some (vI (a3 + 1))] [] w h Q)) ∧ (¬ (h (wf w a0 2) a2) = (-1) → Q a2 h))))))))))) : XI mX5_slackGiver 4 [some (vR a0), none, some (vI a2), some (vI a3)] [] w h Q := by
  refine s_iload_n (pc' := 5) (x := a3) dX5_slackGiver_4 rfl rfl ?_
  refine s_bipush (pc' := 7) dX5_slackGiver_5 (by decide) rfl ?_
  obtain ⟨z1, V⟩ := V
  obtain ⟨V15, V16⟩ := V
  refine s_icmp_ge (pc' := 10) (tgt := 43) dX5_slackGiver_7 rfl rfl z1 (by decide) (fun c => ?_) (fun c => ?_)
  · have V := V15 c
    refine s_iconst (pc' := 44) dX5_slackGiver_43 rfl ?_
    exact s_iret dX5_slackGiver_44 rfl ⟨_, rfl, rfl, V⟩
  · have V := V16 c
    refine s_aload_n (pc' := 11) (x := a0) dX5_slackGiver_10 rfl rfl ?_
    refine s_iload_n (pc' := 12) (x := a2) dX5_slackGiver_11 rfl rfl ?_
    obtain ⟨z2, z3, z4, V⟩ := V
    refine s_callV (pc' := 15) (av := [vI a2]) (a := a0) (sk := []) (kc := 5) dX5_slackGiver_12 ml_5_52 okX5_hasKind oiX5_hasKind (by decide) (NF := 12) rfl z2 rfl (Nat.le_of_ble_eq_true rfl) (Nat.le_refl 0) (Nat.le_refl 0) rfl (CI.eon (c_X5_hasKind z2 z3 z4) ?_)
    obtain ⟨V13, V14⟩ := V
    refine s_ifeq_b (pc' := 18) (tgt := 43) dX5_slackGiver_15 rfl rfl (fun c => ?_) (fun c => ?_)
    · have V := V13 c
      refine s_iconst (pc' := 44) dX5_slackGiver_43 rfl ?_
      exact s_iret dX5_slackGiver_44 rfl ⟨_, rfl, rfl, V⟩
    · have V := V14 c
      refine s_aload_n (pc' := 19) (x := a0) dX5_slackGiver_18 rfl rfl ?_
      refine s_get (pc' := 22) (v := vR (wf w a0 2)) (kc := 5) (i := 2) dX5_slackGiver_19 clX5 (by decide) fl_5_2 z2 (fun _ => rfl) rfl ?_
      refine s_iload_n (pc' := 23) (x := a2) dX5_slackGiver_22 rfl rfl ?_
      obtain ⟨z5, z6, z7, V⟩ := V
      refine s_iald (pc' := 24) dX5_slackGiver_23 z5 z6 z7 rfl ?_
      refine s_iconst (pc' := 25) dX5_slackGiver_24 rfl ?_
      obtain ⟨z8, V⟩ := V
      obtain ⟨V11, V12⟩ := V
      refine s_icmp_eq (pc' := 28) (tgt := 30) dX5_slackGiver_25 rfl rfl z8 (by decide) (fun c => ?_) (fun c => ?_)
      · have V := V11 c
        refine s_aload_n (pc' := 31) (x := a0) dX5_slackGiver_30 rfl rfl ?_
        refine s_get (pc' := 34) (v := vR (wf w a0 1)) (kc := 5) (i := 1) dX5_slackGiver_31 clX5 (by decide) fl_5_1 z2 (fun _ => rfl) rfl ?_
        refine s_iload_n (pc' := 35) (x := a2) dX5_slackGiver_34 rfl rfl ?_
        obtain ⟨z9, z10, V⟩ := V
        refine s_iald (pc' := 36) dX5_slackGiver_35 z9 z6 z10 rfl ?_
        refine s_istore_n (pc' := 37) (ls' := [some (vR a0), none, some (vI (h (wf w a0 1) a2)), some (vI a3)]) dX5_slackGiver_36 (by decide) rfl rfl ?_
        refine s_iinc (pc' := 40) (ls' := [some (vR a0), none, some (vI (h (wf w a0 1) a2)), some (vI (a3 + 1))]) dX5_slackGiver_37 rfl (by decide) rfl rfl ?_
        refine s_goto (tgt := 4) dX5_slackGiver_40 rfl ?_
        exact V
      · have V := V12 c
        refine s_iload_n (pc' := 29) (x := a2) dX5_slackGiver_28 rfl rfl ?_
        exact s_iret dX5_slackGiver_29 rfl ⟨_, rfl, rfl, V⟩
theorem e_X5_weightOf {w : WS} {h : AH} {Q : Int → AH → Prop} {a0 a1 : Int} (X : XI mX5_weightOf 0 [some (vR a0), some (vI a1), none, none] [] w h Q) : CI mX5_weightOf [vR a0, vI a1] w h Q := CA.of (M := mX5_weightOf) (by decide) rfl (Nat.le_of_ble_eq_true rfl) X
set_option maxRecDepth 20000 in
theorem r_X5_weightOf_0 {w : WS} {h : AH} {Q : Int → AH → Prop} {a0 a1 : Int} (V : XI mX5_weightOf 4 [some (vR a0), none, some (vI a1), some (vI 0)] [] w h Q) : XI mX5_weightOf 0 [some (vR a0), some (vI a1), none, none] [] w h Q := by
  refine s_iload_n (pc' := 1) (x := a1) dX5_weightOf_0 rfl rfl ?_
  refine s_istore_n (pc' := 2) (ls' := [some (vR a0), some (vI a1), some (vI a1), none]) dX5_weightOf_1 (by decide) rfl rfl ?_
  refine s_iconst (pc' := 3) dX5_weightOf_2 rfl ?_
  refine s_istore_n (pc' := 4) (ls' := [some (vR a0), some (vI a1), some (vI a1), some (vI 0)]) dX5_weightOf_3 (by decide) rfl rfl ?_
  refine s_drop 1 (ls' := [some (vR a0), none, some (vI a1), some (vI 0)]) rfl ?_
  exact V
set_option maxRecDepth 20000 in
theorem r_X5_weightOf_4 {w : WS} {h : AH} {Q : Int → AH → Prop} {a0 a2 a3 : Int} (V : (inR a3 ∧ ((8 ≤ a3 → Q 1 h) ∧ (¬ 8 ≤ a3 → (wt w a0 = 15 ∧ inR a2 ∧ inR (h a0 4) ∧ ((¬ (0 ≤ a2 ∧ a2 < h a0 4) → Q 1 h) ∧ ((0 ≤ a2 ∧ a2 < h a0 4) → (wt w (wf w a0 3) = 1 ∧ 0 ≤ a2 ∧ a2 < wl w (wf w a0 3) ∧ (inR (h (wf w a0 3) a2) ∧ (((h (wf w a0 3) a2) = (-1) → (wt w (wf w a0 1) = 1 ∧ a2 < wl w (wf w a0 1) ∧ XI mX5_weightOf 4 [some (vR a0), none, some (vI (h (wf w a0 1) a2)), some (vI (a3 + 1))] [] w h Q)) ∧ (¬ (h (wf w a0 3) a2) = (-1) → Q (h (wf w a0 3) a2) h))))))))))) : XI mX5_weightOf 4 [some (vR a0), none, some (vI a2), some (vI a3)] [] w h Q := by
  refine s_iload_n (pc' := 5) (x := a3) dX5_weightOf_4 rfl rfl ?_
  refine s_bipush (pc' := 7) dX5_weightOf_5 (by decide) rfl ?_
  obtain ⟨z1, V⟩ := V
  obtain ⟨V15, V16⟩ := V
  refine s_icmp_ge (pc' := 10) (tgt := 48) dX5_weightOf_7 rfl rfl z1 (by decide) (fun c => ?_) (fun c => ?_)
  · have V := V15 c
    refine s_iconst (pc' := 49) dX5_weightOf_48 rfl ?_
    exact s_iret dX5_weightOf_49 rfl ⟨_, rfl, rfl, V⟩
  · have V := V16 c
    refine s_aload_n (pc' := 11) (x := a0) dX5_weightOf_10 rfl rfl ?_
    refine s_iload_n (pc' := 12) (x := a2) dX5_weightOf_11 rfl rfl ?_
    obtain ⟨z2, z3, z4, V⟩ := V
    refine s_callV (pc' := 15) (av := [vI a2]) (a := a0) (sk := []) (kc := 5) dX5_weightOf_12 ml_5_52 okX5_hasKind oiX5_hasKind (by decide) (NF := 12) rfl z2 rfl (Nat.le_of_ble_eq_true rfl) (Nat.le_refl 0) (Nat.le_refl 0) rfl (CI.eon (c_X5_hasKind z2 z3 z4) ?_)
    obtain ⟨V13, V14⟩ := V
    refine s_ifeq_b (pc' := 18) (tgt := 48) dX5_weightOf_15 rfl rfl (fun c => ?_) (fun c => ?_)
    · have V := V13 c
      refine s_iconst (pc' := 49) dX5_weightOf_48 rfl ?_
      exact s_iret dX5_weightOf_49 rfl ⟨_, rfl, rfl, V⟩
    · have V := V14 c
      refine s_aload_n (pc' := 19) (x := a0) dX5_weightOf_18 rfl rfl ?_
      refine s_get (pc' := 22) (v := vR (wf w a0 3)) (kc := 5) (i := 3) dX5_weightOf_19 clX5 (by decide) fl_5_3 z2 (fun _ => rfl) rfl ?_
      refine s_iload_n (pc' := 23) (x := a2) dX5_weightOf_22 rfl rfl ?_
      obtain ⟨z5, z6, z7, V⟩ := V
      refine s_iald (pc' := 24) dX5_weightOf_23 z5 z6 z7 rfl ?_
      refine s_iconst (pc' := 25) dX5_weightOf_24 rfl ?_
      obtain ⟨z8, V⟩ := V
      obtain ⟨V11, V12⟩ := V
      refine s_icmp_eq (pc' := 28) (tgt := 35) dX5_weightOf_25 rfl rfl z8 (by decide) (fun c => ?_) (fun c => ?_)
      · have V := V11 c
        refine s_aload_n (pc' := 36) (x := a0) dX5_weightOf_35 rfl rfl ?_
        refine s_get (pc' := 39) (v := vR (wf w a0 1)) (kc := 5) (i := 1) dX5_weightOf_36 clX5 (by decide) fl_5_1 z2 (fun _ => rfl) rfl ?_
        refine s_iload_n (pc' := 40) (x := a2) dX5_weightOf_39 rfl rfl ?_
        obtain ⟨z9, z10, V⟩ := V
        refine s_iald (pc' := 41) dX5_weightOf_40 z9 z6 z10 rfl ?_
        refine s_istore_n (pc' := 42) (ls' := [some (vR a0), none, some (vI (h (wf w a0 1) a2)), some (vI a3)]) dX5_weightOf_41 (by decide) rfl rfl ?_
        refine s_iinc (pc' := 45) (ls' := [some (vR a0), none, some (vI (h (wf w a0 1) a2)), some (vI (a3 + 1))]) dX5_weightOf_42 rfl (by decide) rfl rfl ?_
        refine s_goto (tgt := 4) dX5_weightOf_45 rfl ?_
        exact V
      · have V := V12 c
        refine s_aload_n (pc' := 29) (x := a0) dX5_weightOf_28 rfl rfl ?_
        refine s_get (pc' := 32) (v := vR (wf w a0 3)) (kc := 5) (i := 3) dX5_weightOf_29 clX5 (by decide) fl_5_3 z2 (fun _ => rfl) rfl ?_
        refine s_iload_n (pc' := 33) (x := a2) dX5_weightOf_32 rfl rfl ?_
        refine s_iald (pc' := 34) dX5_weightOf_33 z5 z6 z7 rfl ?_
        exact s_iret dX5_weightOf_34 rfl ⟨_, rfl, rfl, V⟩
section
variable {w : WS} {h : AH} {o k v : Int} {S : Int → Int}
theorem c_X5_parentOf (sh : shSetup w o) (hk : inR k) (hn : 0 ≤ h o 4 ∧ h o 4 ≤ 8) : CI mX5_parentOf [vR o, vI k] w h (fun x h' => x = (if 0 ≤ k ∧ k < h o 4 then h (o + 2) k else -1) ∧ h' = h) := by
  obtain ⟨s0, f0, f1, f2, f3, f5, f6, f7, ⟨t1, t2, t3, t4, t5, t6, t7⟩, l1, l2, l3, l4, l5, l6, l7⟩ := sh
  refine e_X5_parentOf (r_X5_parentOf_0 ?_)
  rw [f1]
  exact ⟨s0, hk, by omega, fun c => ⟨(if_neg c).symm, rfl⟩, fun c => ⟨t2, c.1, by omega, (if_pos c).symm, rfl⟩⟩
theorem c_X5_ownSlack (sh : shSetup w o) (hk : inR k) (hn : 0 ≤ h o 4 ∧ h o 4 ≤ 8) : CI mX5_ownSlack [vR o, vI k] w h (fun x h' => x = (if 0 ≤ k ∧ k < h o 4 then h (o + 3) k else -1) ∧ h' = h) := by
  obtain ⟨s0, f0, f1, f2, f3, f5, f6, f7, ⟨t1, t2, t3, t4, t5, t6, t7⟩, l1, l2, l3, l4, l5, l6, l7⟩ := sh
  refine e_X5_ownSlack (r_X5_ownSlack_0 ?_)
  rw [f2]
  exact ⟨s0, hk, by omega, fun c => ⟨(if_neg c).symm, rfl⟩, fun c => ⟨t3, c.1, by omega, (if_pos c).symm, rfl⟩⟩
theorem c_X5_ownWeight (sh : shSetup w o) (hk : inR k) (hn : 0 ≤ h o 4 ∧ h o 4 ≤ 8) : CI mX5_ownWeight [vR o, vI k] w h (fun x h' => x = (if 0 ≤ k ∧ k < h o 4 then h (o + 4) k else -1) ∧ h' = h) := by
  obtain ⟨s0, f0, f1, f2, f3, f5, f6, f7, ⟨t1, t2, t3, t4, t5, t6, t7⟩, l1, l2, l3, l4, l5, l6, l7⟩ := sh
  refine e_X5_ownWeight (r_X5_ownWeight_0 ?_)
  rw [f3]
  exact ⟨s0, hk, by omega, fun c => ⟨(if_neg c).symm, rfl⟩, fun c => ⟨t4, c.1, by omega, (if_pos c).symm, rfl⟩⟩
theorem c_X5_setSlack (sh : shSetup w o) (hn : 0 ≤ h o 4 ∧ h o 4 ≤ 8) (h0 : 0 ≤ k) (h1 : k < h o 4) : CV mX5_setSlack [vR o, vI k, vI v] w h (fun h' => h' = st h (o + 3) k v) := by
  obtain ⟨s0, f0, f1, f2, f3, f5, f6, f7, ⟨t1, t2, t3, t4, t5, t6, t7⟩, l1, l2, l3, l4, l5, l6, l7⟩ := sh
  refine e_X5_setSlack (r_X5_setSlack_0 ?_)
  rw [f2]
  exact ⟨s0, by omega, by omega, fun c => absurd ⟨h0, h1⟩ c, fun c => ⟨t3, c.1, by omega, fun _ e => e⟩⟩
theorem c_X5_kindOfTimer (sh : shSetup w o) (hk : inR k) (hn : 0 ≤ h o 8 ∧ h o 8 ≤ 24) : CI mX5_kindOfTimer [vR o, vI k] w h (fun x h' => x = (if 0 ≤ k ∧ k < h o 8 then h (o + 5) k else -1) ∧ h' = h) := by
  obtain ⟨s0, f0, f1, f2, f3, f5, f6, f7, ⟨t1, t2, t3, t4, t5, t6, t7⟩, l1, l2, l3, l4, l5, l6, l7⟩ := sh
  refine e_X5_kindOfTimer (r_X5_kindOfTimer_0 ?_)
  rw [f5]
  exact ⟨s0, hk, by omega, fun c => ⟨(if_neg c).symm, rfl⟩, fun c => ⟨t5, c.1, by omega, (if_pos c).symm, rfl⟩⟩
theorem c_X5_periodOf (sh : shSetup w o) (hk : inR k) (hn : 0 ≤ h o 8 ∧ h o 8 ≤ 24) : CI mX5_periodOf [vR o, vI k] w h (fun x h' => x = (if 0 ≤ k ∧ k < h o 8 then h (o + 6) k else 0) ∧ h' = h) := by
  obtain ⟨s0, f0, f1, f2, f3, f5, f6, f7, ⟨t1, t2, t3, t4, t5, t6, t7⟩, l1, l2, l3, l4, l5, l6, l7⟩ := sh
  refine e_X5_periodOf (r_X5_periodOf_0 ?_)
  rw [f6]
  exact ⟨s0, hk, by omega, fun c => ⟨(if_neg c).symm, rfl⟩, fun c => ⟨t6, c.1, by omega, (if_pos c).symm, rfl⟩⟩
theorem c_X5_tickOf (sh : shSetup w o) (hk : inR k) (hn : 0 ≤ h o 8 ∧ h o 8 ≤ 24) : CI mX5_tickOf [vR o, vI k] w h (fun x h' => x = (if 0 ≤ k ∧ k < h o 8 then h (o + 7) k else -1) ∧ h' = h) := by
  obtain ⟨s0, f0, f1, f2, f3, f5, f6, f7, ⟨t1, t2, t3, t4, t5, t6, t7⟩, l1, l2, l3, l4, l5, l6, l7⟩ := sh
  refine e_X5_tickOf (r_X5_tickOf_0 ?_)
  rw [f7]
  exact ⟨s0, hk, by omega, fun c => ⟨(if_neg c).symm, rfl⟩, fun c => ⟨t7, c.1, by omega, (if_pos c).symm, rfl⟩⟩
theorem c_X5_slackGiver (sh : shSetup w o) (hS : isS h o S) (ok : okS S) (hk : k = -1 ∨ (0 ≤ k ∧ k < S 96)) : CI mX5_slackGiver [vR o, vI k] w h (fun x h' => x = near S 8 8 k ∧ h' = h) := by
  obtain ⟨s0, f0, f1, f2, f3, f5, f6, f7, ⟨t1, t2, t3, t4, t5, t6, t7⟩, l1, l2, l3, l4, l5, l6, l7⟩ := sh
  refine e_X5_slackGiver (r_X5_slackGiver_0 ?_)
  have key : ∀ (n : Nat) (k i : Int), i + n = 8 → 0 ≤ i → (k = -1 ∨ (0 ≤ k ∧ k < S 96)) → ∀ y, y = near S 8 n k → XI mX5_slackGiver 4 [some (vR o), none, some (vI k), some (vI i)] [] w h (fun x h' => x = y ∧ h' = h) := by
    intro n
    have hK := ok.1
    have e4 := hS.1
    induction n with
    | zero =>
      intro k i hi h0 hk y hy
      subst hy
      refine r_X5_slackGiver_4 ?_
      exact ⟨by omega, fun c => ⟨rfl, rfl⟩, fun c => absurd c (by omega)⟩
    | succ n ih =>
      intro k i hi h0 hk y hy
      subst hy
      refine r_X5_slackGiver_4 ?_
      rw [f1, f2, e4]
      refine ⟨by omega, fun c => absurd c (by omega), fun c => ⟨s0, by omega, by omega, fun c2 => ⟨?_, rfl⟩, fun c2 => ?_⟩⟩
      · unfold near; rw [if_pos (by omega)]
      · obtain ⟨g1, g2, g3⟩ := hS.2.2.2.2.2.1 k c2.1 c2.2
        obtain ⟨b1, b2, b3⟩ := ok.2.2.2.2.2.1 k c2.1 c2.2
        rw [g1, g2]
        refine ⟨t3, c2.1, by omega, by omega, fun c3 => ⟨t2, by omega, ih _ _ (by omega) (by omega) (by omega) _ ?_⟩, fun c3 => ⟨?_, rfl⟩⟩
        · rw [near, if_neg (by omega), if_neg (by omega)]
        · rw [near, if_neg (by omega), if_pos (by omega)]
  exact key 8 k 0 rfl (by omega) hk _ rfl
theorem c_X5_weightOf (sh : shSetup w o) (hS : isS h o S) (ok : okS S) (hk : k = -1 ∨ (0 ≤ k ∧ k < S 96)) : CI mX5_weightOf [vR o, vI k] w h (fun x h' => x = wgt S k ∧ h' = h) := by
  obtain ⟨s0, f0, f1, f2, f3, f5, f6, f7, ⟨t1, t2, t3, t4, t5, t6, t7⟩, l1, l2, l3, l4, l5, l6, l7⟩ := sh
  refine e_X5_weightOf (r_X5_weightOf_0 ?_)
  have key : ∀ (n : Nat) (k i : Int), i + n = 8 → 0 ≤ i → (k = -1 ∨ (0 ≤ k ∧ k < S 96)) → ∀ y, y = (if near S 16 n k = -1 then 1 else S (16 + near S 16 n k)) → XI mX5_weightOf 4 [some (vR o), none, some (vI k), some (vI i)] [] w h (fun x h' => x = y ∧ h' = h) := by
    intro n
    have hK := ok.1
    have e4 := hS.1
    induction n with
    | zero =>
      intro k i hi h0 hk y hy
      subst hy
      refine r_X5_weightOf_4 ?_
      exact ⟨by omega, fun c => ⟨rfl, rfl⟩, fun c => absurd c (by omega)⟩
    | succ n ih =>
      intro k i hi h0 hk y hy
      subst hy
      refine r_X5_weightOf_4 ?_
      rw [f1, f3, e4]
      refine ⟨by omega, fun c => absurd c (by omega), fun c => ⟨s0, by omega, by omega, fun c2 => ⟨?_, rfl⟩, fun c2 => ?_⟩⟩
      · have e : near S 16 (n + 1) k = -1 := by rw [near, if_pos (by omega)]
        rw [e]; rfl
      · obtain ⟨g1, g2, g3⟩ := hS.2.2.2.2.2.1 k c2.1 c2.2
        obtain ⟨b1, b2, b3⟩ := ok.2.2.2.2.2.1 k c2.1 c2.2
        rw [g1, g3]
        refine ⟨t4, c2.1, by omega, by omega, fun c3 => ⟨t2, by omega, ih _ _ (by omega) (by omega) (by omega) _ ?_⟩, fun c3 => ⟨?_, rfl⟩⟩
        · have e : near S 16 (n + 1) k = near S 16 n (S k) := by rw [near, if_neg (by omega), if_neg (by omega)]
          rw [e]
        · have e : near S 16 (n + 1) k = k := by rw [near, if_neg (by omega), if_pos (by omega)]
          rw [e, if_neg (by omega)]
  exact key 8 k 0 rfl (by omega) hk _ rfl
end
theorem e_X5_slackOf {w : WS} {h : AH} {Q : Int → AH → Prop} {a0 a1 : Int} (X : XI mX5_slackOf 0 [some (vR a0), some (vI a1), none] [] w h Q) : CI mX5_slackOf [vR a0, vI a1] w h Q := CA.of (M := mX5_slackOf) (by decide) rfl (Nat.le_of_ble_eq_true rfl) X
set_option maxRecDepth 20000 in
theorem r_X5_slackOf_0 {w : WS} {h : AH} {Q : Int → AH → Prop} {a0 a1 : Int} (V : (wt w a0 = 15 ∧ CI mX5_slackGiver [vR a0, vI a1] w h (fun x3 h2 => (inR x3 ∧ ((¬ x3 = (-1) → (shSetup w a0 ∧ (0 ≤ h2 a0 4 ∧ h2 a0 4 ≤ 8) ∧ Q (if 0 ≤ x3 ∧ x3 < h2 a0 4 then h2 (a0 + 3) x3 else -1) h2)) ∧ (x3 = (-1) → Q 0 h2)))))) : XI mX5_slackOf 0 [some (vR a0), some (vI a1), none] [] w h Q := by
  refine s_aload_n (pc' := 1) (x := a0) dX5_slackOf_0 rfl rfl ?_
  refine s_iload_n (pc' := 2) (x := a1) dX5_slackOf_1 rfl rfl ?_
  obtain ⟨z1, V⟩ := V
  refine s_callV (pc' := 5) (av := [vI a1]) (a := a0) (sk := []) (kc := 5) dX5_slackOf_2 ml_5_56 okX5_slackGiver oiX5_slackGiver (by decide) (NF := 12) rfl z1 rfl (Nat.le_of_ble_eq_true rfl) (Nat.le_refl 0) (Nat.le_refl 0) rfl (CI.on V (fun x3 h2 V => ?_))
  refine s_istore_n (pc' := 6) (ls' := [some (vR a0), some (vI a1), some (vI x3)]) dX5_slackOf_5 (by decide) rfl rfl ?_
  refine s_iload_n (pc' := 7) (x := x3) dX5_slackOf_6 rfl rfl ?_
  refine s_iconst (pc' := 8) dX5_slackOf_7 rfl ?_
  obtain ⟨z4, V⟩ := V
  obtain ⟨V7, V8⟩ := V
  refine s_icmp_ne (pc' := 11) (tgt := 15) dX5_slackOf_8 rfl rfl z4 (by decide) (fun c => ?_) (fun c => ?_)
  · have V := V7 c
    refine s_aload_n (pc' := 16) (x := a0) dX5_slackOf_15 rfl rfl ?_
    refine s_iload_n (pc' := 17) (x := x3) dX5_slackOf_16 rfl rfl ?_
    obtain ⟨z5, z6, V⟩ := V
    refine s_callV (pc' := 20) (av := [vI x3]) (a := a0) (sk := []) (kc := 5) dX5_slackOf_17 ml_5_60 okX5_ownSlack oiX5_ownSlack (by decide) (NF := 12) rfl z1 rfl (Nat.le_of_ble_eq_true rfl) (Nat.le_refl 0) (Nat.le_refl 0) rfl (CI.eon (c_X5_ownSlack z5 z4 z6) ?_)
    exact s_iret dX5_slackOf_20 rfl ⟨_, rfl, rfl, V⟩
  · have V := V8 c
    refine s_iconst (pc' := 12) dX5_slackOf_11 rfl ?_
    refine s_goto (tgt := 20) dX5_slackOf_12 rfl ?_
    exact s_iret dX5_slackOf_20 rfl ⟨_, rfl, rfl, V⟩
theorem e_X5_timersOf {w : WS} {h : AH} {Q : Int → AH → Prop} {a0 a1 : Int} (X : XI mX5_timersOf 0 [some (vR a0), some (vI a1), none, none] [] w h Q) : CI mX5_timersOf [vR a0, vI a1] w h Q := CA.of (M := mX5_timersOf) (by decide) rfl (Nat.le_of_ble_eq_true rfl) X
set_option maxRecDepth 20000 in
theorem r_X5_timersOf_0 {w : WS} {h : AH} {Q : Int → AH → Prop} {a0 a1 : Int} (V : XI mX5_timersOf 4 [some (vR a0), some (vI a1), some (vI 0), some (vI 0)] [] w h Q) : XI mX5_timersOf 0 [some (vR a0), some (vI a1), none, none] [] w h Q := by
  refine s_iconst (pc' := 1) dX5_timersOf_0 rfl ?_
  refine s_istore_n (pc' := 2) (ls' := [some (vR a0), some (vI a1), some (vI 0), none]) dX5_timersOf_1 (by decide) rfl rfl ?_
  refine s_iconst (pc' := 3) dX5_timersOf_2 rfl ?_
  refine s_istore_n (pc' := 4) (ls' := [some (vR a0), some (vI a1), some (vI 0), some (vI 0)]) dX5_timersOf_3 (by decide) rfl rfl ?_
  exact V
set_option maxRecDepth 20000 in
theorem r_X5_timersOf_4 {w : WS} {h : AH} {Q : Int → AH → Prop} {a0 a1 a2 a3 : Int} (V : (wt w a0 = 15 ∧ (inR a3 ∧ inR (h a0 8) ∧ (((h a0 8) ≤ a3 → Q a2 h) ∧ (¬ (h a0 8) ≤ a3 → (wt w (wf w a0 5) = 1 ∧ 0 ≤ a3 ∧ a3 < wl w (wf w a0 5) ∧ (inR (h (wf w a0 5) a3) ∧ inR a1 ∧ ((¬ (h (wf w a0 5) a3) = a1 → XI mX5_timersOf 4 [some (vR a0), some (vI a1), some (vI a2), some (vI (a3 + 1))] [] w h Q) ∧ ((h (wf w a0 5) a3) = a1 → XI mX5_timersOf 4 [some (vR a0), some (vI a1), some (vI (a2 + 1)), some (vI (a3 + 1))] [] w h Q))))))))) : XI mX5_timersOf 4 [some (vR a0), some (vI a1), some (vI a2), some (vI a3)] [] w h Q := by
  refine s_iload_n (pc' := 5) (x := a3) dX5_timersOf_4 rfl rfl ?_
  refine s_aload_n (pc' := 6) (x := a0) dX5_timersOf_5 rfl rfl ?_
  obtain ⟨z1, V⟩ := V
  refine s_get (pc' := 9) (v := vI (h a0 8)) (kc := 5) (i := 8) dX5_timersOf_6 clX5 (by decide) fl_5_8 z1 (fun _ => rfl) rfl ?_
  obtain ⟨z2, z3, V⟩ := V
  obtain ⟨V11, V12⟩ := V
  refine s_icmp_ge (pc' := 12) (tgt := 31) dX5_timersOf_9 rfl rfl z2 z3 (fun c => ?_) (fun c => ?_)
  · have V := V11 c
    refine s_iload_n (pc' := 32) (x := a2) dX5_timersOf_31 rfl rfl ?_
    exact s_iret dX5_timersOf_32 rfl ⟨_, rfl, rfl, V⟩
  · have V := V12 c
    refine s_aload_n (pc' := 13) (x := a0) dX5_timersOf_12 rfl rfl ?_
    refine s_get (pc' := 16) (v := vR (wf w a0 5)) (kc := 5) (i := 5) dX5_timersOf_13 clX5 (by decide) fl_5_5 z1 (fun _ => rfl) rfl ?_
    refine s_iload_n (pc' := 17) (x := a3) dX5_timersOf_16 rfl rfl ?_
    obtain ⟨z4, z5, z6, V⟩ := V
    refine s_iald (pc' := 18) dX5_timersOf_17 z4 z5 z6 rfl ?_
    refine s_iload_n (pc' := 19) (x := a1) dX5_timersOf_18 rfl rfl ?_
    obtain ⟨z7, z8, V⟩ := V
    obtain ⟨V9, V10⟩ := V
    refine s_icmp_ne (pc' := 22) (tgt := 25) dX5_timersOf_19 rfl rfl z7 z8 (fun c => ?_) (fun c => ?_)
    · have V := V9 c
      refine s_iinc (pc' := 28) (ls' := [some (vR a0), some (vI a1), some (vI a2), some (vI (a3 + 1))]) dX5_timersOf_25 rfl (by decide) rfl rfl ?_
      refine s_goto (tgt := 4) dX5_timersOf_28 rfl ?_
      exact V
    · have V := V10 c
      refine s_iinc (pc' := 25) (ls' := [some (vR a0), some (vI a1), some (vI (a2 + 1)), some (vI a3)]) dX5_timersOf_22 rfl (by decide) rfl rfl ?_
      refine s_iinc (pc' := 28) (ls' := [some (vR a0), some (vI a1), some (vI (a2 + 1)), some (vI (a3 + 1))]) dX5_timersOf_25 rfl (by decide) rfl rfl ?_
      refine s_goto (tgt := 4) dX5_timersOf_28 rfl ?_
      exact V
theorem e_X5_heirsOf {w : WS} {h : AH} {Q : Int → AH → Prop} {a0 a1 : Int} (X : XI mX5_heirsOf 0 [some (vR a0), some (vI a1), none, none] [] w h Q) : CI mX5_heirsOf [vR a0, vI a1] w h Q := CA.of (M := mX5_heirsOf) (by decide) rfl (Nat.le_of_ble_eq_true rfl) X
set_option maxRecDepth 20000 in
theorem r_X5_heirsOf_0 {w : WS} {h : AH} {Q : Int → AH → Prop} {a0 a1 : Int} (V : XI mX5_heirsOf 4 [some (vR a0), some (vI a1), some (vI 0), some (vI 0)] [] w h Q) : XI mX5_heirsOf 0 [some (vR a0), some (vI a1), none, none] [] w h Q := by
  refine s_iconst (pc' := 1) dX5_heirsOf_0 rfl ?_
  refine s_istore_n (pc' := 2) (ls' := [some (vR a0), some (vI a1), some (vI 0), none]) dX5_heirsOf_1 (by decide) rfl rfl ?_
  refine s_iconst (pc' := 3) dX5_heirsOf_2 rfl ?_
  refine s_istore_n (pc' := 4) (ls' := [some (vR a0), some (vI a1), some (vI 0), some (vI 0)]) dX5_heirsOf_3 (by decide) rfl rfl ?_
  exact V
set_option maxRecDepth 20000 in
theorem r_X5_heirsOf_4 {w : WS} {h : AH} {Q : Int → AH → Prop} {a0 a1 a2 a3 : Int} (V : (wt w a0 = 15 ∧ (inR a3 ∧ inR (h a0 4) ∧ (((h a0 4) ≤ a3 → Q a2 h) ∧ (¬ (h a0 4) ≤ a3 → CI mX5_slackGiver [vR a0, vI a3] w h (fun x5 h4 => (inR x5 ∧ inR a1 ∧ ((¬ x5 = a1 → XI mX5_heirsOf 4 [some (vR a0), some (vI a1), some (vI a2), some (vI (a3 + 1))] [] w h4 Q) ∧ (x5 = a1 → XI mX5_heirsOf 4 [some (vR a0), some (vI a1), some (vI (orZ a2 (shlZ 1 a3))), some (vI (a3 + 1))] [] w h4 Q))))))))) : XI mX5_heirsOf 4 [some (vR a0), some (vI a1), some (vI a2), some (vI a3)] [] w h Q := by
  refine s_iload_n (pc' := 5) (x := a3) dX5_heirsOf_4 rfl rfl ?_
  refine s_aload_n (pc' := 6) (x := a0) dX5_heirsOf_5 rfl rfl ?_
  obtain ⟨z1, V⟩ := V
  refine s_get (pc' := 9) (v := vI (h a0 4)) (kc := 5) (i := 4) dX5_heirsOf_6 clX5 (by decide) fl_5_4 z1 (fun _ => rfl) rfl ?_
  obtain ⟨z2, z3, V⟩ := V
  obtain ⟨V10, V11⟩ := V
  refine s_icmp_ge (pc' := 12) (tgt := 33) dX5_heirsOf_9 rfl rfl z2 z3 (fun c => ?_) (fun c => ?_)
  · have V := V10 c
    refine s_iload_n (pc' := 34) (x := a2) dX5_heirsOf_33 rfl rfl ?_
    exact s_iret dX5_heirsOf_34 rfl ⟨_, rfl, rfl, V⟩
  · have V := V11 c
    refine s_aload_n (pc' := 13) (x := a0) dX5_heirsOf_12 rfl rfl ?_
    refine s_iload_n (pc' := 14) (x := a3) dX5_heirsOf_13 rfl rfl ?_
    refine s_callV (pc' := 17) (av := [vI a3]) (a := a0) (sk := []) (kc := 5) dX5_heirsOf_14 ml_5_56 okX5_slackGiver oiX5_slackGiver (by decide) (NF := 12) rfl z1 rfl (Nat.le_of_ble_eq_true rfl) (Nat.le_refl 0) (Nat.le_refl 0) rfl (CI.on V (fun x5 h4 V => ?_))
    refine s_iload_n (pc' := 18) (x := a1) dX5_heirsOf_17 rfl rfl ?_
    obtain ⟨z6, z7, V⟩ := V
    obtain ⟨V8, V9⟩ := V
    refine s_icmp_ne (pc' := 21) (tgt := 27) dX5_heirsOf_18 rfl rfl z6 z7 (fun c => ?_) (fun c => ?_)
    · have V := V8 c
      refine s_iinc (pc' := 30) (ls' := [some (vR a0), some (vI a1), some (vI a2), some (vI (a3 + 1))]) dX5_heirsOf_27 rfl (by decide) rfl rfl ?_
      refine s_goto (tgt := 4) dX5_heirsOf_30 rfl ?_
      exact V
    · have V := V9 c
      refine s_iload_n (pc' := 22) (x := a2) dX5_heirsOf_21 rfl rfl ?_
      refine s_iconst (pc' := 23) dX5_heirsOf_22 rfl ?_
      refine s_iload_n (pc' := 24) (x := a3) dX5_heirsOf_23 rfl rfl ?_
      refine s_ishl (pc' := 25) (z := (shlZ 1 a3)) dX5_heirsOf_24 (shlZ_ok _ _) rfl ?_
      refine s_ior (pc' := 26) (z := (orZ a2 (shlZ 1 a3))) dX5_heirsOf_25 (orZ_ok _ _) rfl ?_
      refine s_istore_n (pc' := 27) (ls' := [some (vR a0), some (vI a1), some (vI (orZ a2 (shlZ 1 a3))), some (vI a3)]) dX5_heirsOf_26 (by decide) rfl rfl ?_
      refine s_iinc (pc' := 30) (ls' := [some (vR a0), some (vI a1), some (vI (orZ a2 (shlZ 1 a3))), some (vI (a3 + 1))]) dX5_heirsOf_27 rfl (by decide) rfl rfl ?_
      refine s_goto (tgt := 4) dX5_heirsOf_30 rfl ?_
      exact V
theorem e_X5_callsAt {w : WS} {h : AH} {Q : Int → AH → Prop} {a0 a1 a2 : Int} (X : XI mX5_callsAt 0 [some (vR a0), some (vI a1), some (vI a2), none, none] [] w h Q) : CI mX5_callsAt [vR a0, vI a1, vI a2] w h Q := CA.of (M := mX5_callsAt) (by decide) rfl (Nat.le_of_ble_eq_true rfl) X
set_option maxRecDepth 20000 in
theorem r_X5_callsAt_0 {w : WS} {h : AH} {Q : Int → AH → Prop} {a0 a1 a2 : Int} (V : (wt w a0 = 15 ∧ shSetup w a0 ∧ inR a1 ∧ (0 ≤ h a0 8 ∧ h a0 8 ≤ 24) ∧ (∀ y5, y5 = (a2 - (if 0 ≤ a1 ∧ a1 < h a0 8 then h (a0 + 7) a1 else -1)) → (∀ y7, y7 = (if 0 ≤ a1 ∧ a1 < h a0 8 then h (a0 + 6) a1 else 0) → (inR y5 ∧ ((y5 = 0 → Q 1 h) ∧ (¬ y5 = 0 → ((y5 ≤ 0 → Q 0 h) ∧ (¬ y5 ≤ 0 → (inR y7 ∧ ((y7 ≤ 0 → Q 0 h) ∧ (¬ y7 ≤ 0 → ((0 ≤ y5 ∧ y5 ≤ 2147483647) ∧ (0 < y7 ∧ y7 ≤ 2147483647) ∧ (inR (y5 % y7) ∧ ((¬ (y5 % y7) = 0 → Q 0 h) ∧ ((y5 % y7) = 0 → Q 1 h)))))))))))))))) : XI mX5_callsAt 0 [some (vR a0), some (vI a1), some (vI a2), none, none] [] w h Q := by
  refine s_iload_n (pc' := 1) (x := a2) dX5_callsAt_0 rfl rfl ?_
  refine s_aload_n (pc' := 2) (x := a0) dX5_callsAt_1 rfl rfl ?_
  refine s_iload_n (pc' := 3) (x := a1) dX5_callsAt_2 rfl rfl ?_
  obtain ⟨z1, z2, z3, z4, V⟩ := V
  refine s_callV (pc' := 6) (av := [vI a1]) (a := a0) (sk := [vI a2]) (kc := 5) dX5_callsAt_3 ml_5_66 okX5_tickOf oiX5_tickOf (by decide) (NF := 12) rfl z1 rfl (Nat.le_of_ble_eq_true rfl) (Nat.le_refl 0) (Nat.le_refl 0) rfl (CI.eon (c_X5_tickOf z2 z3 z4) ?_)
  refine s_isub (pc' := 7) dX5_callsAt_6 rfl ?_
  obtain ⟨y5, e6⟩ : ∃ q, q = (a2 - (if 0 ≤ a1 ∧ a1 < h a0 8 then h (a0 + 7) a1 else -1)) := ⟨_, rfl⟩
  rw [← e6]
  have V := V y5 e6
  refine s_istore_n (pc' := 8) (ls' := [some (vR a0), some (vI a1), some (vI a2), some (vI y5), none]) dX5_callsAt_7 (by decide) rfl rfl ?_
  refine s_aload_n (pc' := 9) (x := a0) dX5_callsAt_8 rfl rfl ?_
  refine s_iload_n (pc' := 10) (x := a1) dX5_callsAt_9 rfl rfl ?_
  refine s_callV (pc' := 13) (av := [vI a1]) (a := a0) (sk := []) (kc := 5) dX5_callsAt_10 ml_5_69 okX5_periodOf oiX5_periodOf (by decide) (NF := 12) rfl z1 rfl (Nat.le_of_ble_eq_true rfl) (Nat.le_refl 0) (Nat.le_refl 0) rfl (CI.eon (c_X5_periodOf z2 z3 z4) ?_)
  obtain ⟨y7, e8⟩ : ∃ q, q = (if 0 ≤ a1 ∧ a1 < h a0 8 then h (a0 + 6) a1 else 0) := ⟨_, rfl⟩
  rw [← e8]
  have V := V y7 e8
  refine s_istore (pc' := 15) (ls' := [some (vR a0), some (vI a1), some (vI a2), some (vI y5), some (vI y7)]) dX5_callsAt_13 (by decide) rfl rfl ?_
  refine s_iload_n (pc' := 16) (x := y5) dX5_callsAt_15 rfl rfl ?_
  obtain ⟨z9, V⟩ := V
  obtain ⟨V20, V21⟩ := V
  refine s_if_eq (pc' := 19) (tgt := 35) dX5_callsAt_16 rfl rfl z9 (fun c => ?_) (fun c => ?_)
  · have V := V20 c
    refine s_iconst (pc' := 36) dX5_callsAt_35 rfl ?_
    refine s_goto (tgt := 40) dX5_callsAt_36 rfl ?_
    exact s_zret dX5_callsAt_40 rfl (by decide) ⟨_, rfl, rfl, V⟩
  · have V := V21 c
    refine s_iload_n (pc' := 20) (x := y5) dX5_callsAt_19 rfl rfl ?_
    obtain ⟨V18, V19⟩ := V
    refine s_if_le (pc' := 23) (tgt := 39) dX5_callsAt_20 rfl rfl z9 (fun c => ?_) (fun c => ?_)
    · have V := V18 c
      refine s_iconst (pc' := 40) dX5_callsAt_39 rfl ?_
      exact s_zret dX5_callsAt_40 rfl (by decide) ⟨_, rfl, rfl, V⟩
    · have V := V19 c
      refine s_iload (pc' := 25) (x := y7) dX5_callsAt_23 rfl rfl ?_
      obtain ⟨z10, V⟩ := V
      obtain ⟨V16, V17⟩ := V
      refine s_if_le (pc' := 28) (tgt := 39) dX5_callsAt_25 rfl rfl z10 (fun c => ?_) (fun c => ?_)
      · have V := V16 c
        refine s_iconst (pc' := 40) dX5_callsAt_39 rfl ?_
        exact s_zret dX5_callsAt_40 rfl (by decide) ⟨_, rfl, rfl, V⟩
      · have V := V17 c
        refine s_iload_n (pc' := 29) (x := y5) dX5_callsAt_28 rfl rfl ?_
        refine s_iload (pc' := 31) (x := y7) dX5_callsAt_29 rfl rfl ?_
        obtain ⟨z11, z12, V⟩ := V
        refine s_irem (pc' := 32) dX5_callsAt_31 z11 z12 rfl ?_
        obtain ⟨z13, V⟩ := V
        obtain ⟨V14, V15⟩ := V
        refine s_if_ne (pc' := 35) (tgt := 39) dX5_callsAt_32 rfl rfl z13 (fun c => ?_) (fun c => ?_)
        · have V := V14 c
          refine s_iconst (pc' := 40) dX5_callsAt_39 rfl ?_
          exact s_zret dX5_callsAt_40 rfl (by decide) ⟨_, rfl, rfl, V⟩
        · have V := V15 c
          refine s_iconst (pc' := 36) dX5_callsAt_35 rfl ?_
          refine s_goto (tgt := 40) dX5_callsAt_36 rfl ?_
          exact s_zret dX5_callsAt_40 rfl (by decide) ⟨_, rfl, rfl, V⟩
theorem e_X5_callsInAll {w : WS} {h : AH} {Q : Int → AH → Prop} {a0 : Int} (X : XI mX5_callsInAll 0 [some (vR a0), none, none, none] [] w h Q) : CI mX5_callsInAll [vR a0] w h Q := CA.of (M := mX5_callsInAll) (by decide) rfl (Nat.le_of_ble_eq_true rfl) X
set_option maxRecDepth 20000 in
theorem r_X5_callsInAll_0 {w : WS} {h : AH} {Q : Int → AH → Prop} {a0 : Int} (V : XI mX5_callsInAll 4 [some (vR a0), some (vI 0), some (vI 0), none] [] w h Q) : XI mX5_callsInAll 0 [some (vR a0), none, none, none] [] w h Q := by
  refine s_iconst (pc' := 1) dX5_callsInAll_0 rfl ?_
  refine s_istore_n (pc' := 2) (ls' := [some (vR a0), some (vI 0), none, none]) dX5_callsInAll_1 (by decide) rfl rfl ?_
  refine s_iconst (pc' := 3) dX5_callsInAll_2 rfl ?_
  refine s_istore_n (pc' := 4) (ls' := [some (vR a0), some (vI 0), some (vI 0), none]) dX5_callsInAll_3 (by decide) rfl rfl ?_
  exact V
set_option maxRecDepth 20000 in
theorem r_X5_callsInAll_4 {w : WS} {h : AH} {Q : Int → AH → Prop} {a0 a1 a2 : Int} (V : (wt w a0 = 15 ∧ (inR a2 ∧ inR (h a0 8) ∧ (((h a0 8) ≤ a2 → Q a1 h) ∧ (¬ (h a0 8) ≤ a2 → (wt w (wf w a0 7) = 1 ∧ 0 ≤ a2 ∧ a2 < wl w (wf w a0 7) ∧ (∀ y7, y7 = ((h a0 9) - (h (wf w a0 7) a2)) → (inR y7 ∧ ((y7 < 0 → XI mX5_callsInAll 4 [some (vR a0), some (vI a1), some (vI (a2 + 1)), none] [] w h Q) ∧ (¬ y7 < 0 → (wt w (wf w a0 6) = 1 ∧ a2 < wl w (wf w a0 6) ∧ (inR (h (wf w a0 6) a2) ∧ (((h (wf w a0 6) a2) ≤ 0 → XI mX5_callsInAll 4 [some (vR a0), some (vI (a1 + 1)), some (vI (a2 + 1)), none] [] w h Q) ∧ (¬ (h (wf w a0 6) a2) ≤ 0 → ((0 ≤ y7 ∧ y7 ≤ 2147483647) ∧ (0 < (h (wf w a0 6) a2) ∧ (h (wf w a0 6) a2) ≤ 2147483647) ∧ (∀ y15, y15 = (a1 + (1 + (y7 / (h (wf w a0 6) a2)))) → XI mX5_callsInAll 4 [some (vR a0), some (vI y15), some (vI (a2 + 1)), none] [] w h Q)))))))))))))))) : XI mX5_callsInAll 4 [some (vR a0), some (vI a1), some (vI a2), none] [] w h Q := by
  refine s_iload_n (pc' := 5) (x := a2) dX5_callsInAll_4 rfl rfl ?_
  refine s_aload_n (pc' := 6) (x := a0) dX5_callsInAll_5 rfl rfl ?_
  obtain ⟨z1, V⟩ := V
  refine s_get (pc' := 9) (v := vI (h a0 8)) (kc := 5) (i := 8) dX5_callsInAll_6 clX5 (by decide) fl_5_8 z1 (fun _ => rfl) rfl ?_
  obtain ⟨z2, z3, V⟩ := V
  obtain ⟨V21, V22⟩ := V
  refine s_icmp_ge (pc' := 12) (tgt := 60) dX5_callsInAll_9 rfl rfl z2 z3 (fun c => ?_) (fun c => ?_)
  · have V := V21 c
    refine s_iload_n (pc' := 61) (x := a1) dX5_callsInAll_60 rfl rfl ?_
    exact s_iret dX5_callsInAll_61 rfl ⟨_, rfl, rfl, V⟩
  · have V := V22 c
    refine s_aload_n (pc' := 13) (x := a0) dX5_callsInAll_12 rfl rfl ?_
    refine s_get (pc' := 16) (v := vI (h a0 9)) (kc := 5) (i := 9) dX5_callsInAll_13 clX5 (by decide) fl_5_9 z1 (fun _ => rfl) rfl ?_
    refine s_aload_n (pc' := 17) (x := a0) dX5_callsInAll_16 rfl rfl ?_
    refine s_get (pc' := 20) (v := vR (wf w a0 7)) (kc := 5) (i := 7) dX5_callsInAll_17 clX5 (by decide) fl_5_7 z1 (fun _ => rfl) rfl ?_
    refine s_iload_n (pc' := 21) (x := a2) dX5_callsInAll_20 rfl rfl ?_
    obtain ⟨z4, z5, z6, V⟩ := V
    refine s_iald (pc' := 22) dX5_callsInAll_21 z4 z5 z6 rfl ?_
    refine s_isub (pc' := 23) dX5_callsInAll_22 rfl ?_
    obtain ⟨y7, e8⟩ : ∃ q, q = ((h a0 9) - (h (wf w a0 7) a2)) := ⟨_, rfl⟩
    rw [← e8]
    have V := V y7 e8
    refine s_istore_n (pc' := 24) (ls' := [some (vR a0), some (vI a1), some (vI a2), some (vI y7)]) dX5_callsInAll_23 (by decide) rfl rfl ?_
    refine s_iload_n (pc' := 25) (x := y7) dX5_callsInAll_24 rfl rfl ?_
    obtain ⟨z9, V⟩ := V
    obtain ⟨V19, V20⟩ := V
    refine s_if_lt (pc' := 28) (tgt := 54) dX5_callsInAll_25 rfl rfl z9 (fun c => ?_) (fun c => ?_)
    · have V := V19 c
      refine s_iinc (pc' := 57) (ls' := [some (vR a0), some (vI a1), some (vI (a2 + 1)), some (vI y7)]) dX5_callsInAll_54 rfl (by decide) rfl rfl ?_
      refine s_goto (tgt := 4) dX5_callsInAll_57 rfl ?_
      refine s_drop 3 (ls' := [some (vR a0), some (vI a1), some (vI (a2 + 1)), none]) rfl ?_
      exact V
    · have V := V20 c
      refine s_iload_n (pc' := 29) (x := a1) dX5_callsInAll_28 rfl rfl ?_
      refine s_aload_n (pc' := 30) (x := a0) dX5_callsInAll_29 rfl rfl ?_
      refine s_get (pc' := 33) (v := vR (wf w a0 6)) (kc := 5) (i := 6) dX5_callsInAll_30 clX5 (by decide) fl_5_6 z1 (fun _ => rfl) rfl ?_
      refine s_iload_n (pc' := 34) (x := a2) dX5_callsInAll_33 rfl rfl ?_
      obtain ⟨z10, z11, V⟩ := V
      refine s_iald (pc' := 35) dX5_callsInAll_34 z10 z5 z11 rfl ?_
      obtain ⟨z12, V⟩ := V
      obtain ⟨V17, V18⟩ := V
      refine s_if_le (pc' := 38) (tgt := 51) dX5_callsInAll_35 rfl rfl z12 (fun c => ?_) (fun c => ?_)
      · have V := V17 c
        refine s_iconst (pc' := 52) dX5_callsInAll_51 rfl ?_
        refine s_iadd (pc' := 53) dX5_callsInAll_52 rfl ?_
        refine s_istore_n (pc' := 54) (ls' := [some (vR a0), some (vI (a1 + 1)), some (vI a2), some (vI y7)]) dX5_callsInAll_53 (by decide) rfl rfl ?_
        refine s_iinc (pc' := 57) (ls' := [some (vR a0), some (vI (a1 + 1)), some (vI (a2 + 1)), some (vI y7)]) dX5_callsInAll_54 rfl (by decide) rfl rfl ?_
        refine s_goto (tgt := 4) dX5_callsInAll_57 rfl ?_
        refine s_drop 3 (ls' := [some (vR a0), some (vI (a1 + 1)), some (vI (a2 + 1)), none]) rfl ?_
        exact V
      · have V := V18 c
        refine s_iconst (pc' := 39) dX5_callsInAll_38 rfl ?_
        refine s_iload_n (pc' := 40) (x := y7) dX5_callsInAll_39 rfl rfl ?_
        refine s_aload_n (pc' := 41) (x := a0) dX5_callsInAll_40 rfl rfl ?_
        refine s_get (pc' := 44) (v := vR (wf w a0 6)) (kc := 5) (i := 6) dX5_callsInAll_41 clX5 (by decide) fl_5_6 z1 (fun _ => rfl) rfl ?_
        refine s_iload_n (pc' := 45) (x := a2) dX5_callsInAll_44 rfl rfl ?_
        refine s_iald (pc' := 46) dX5_callsInAll_45 z10 z5 z11 rfl ?_
        obtain ⟨z13, z14, V⟩ := V
        refine s_idiv (pc' := 47) dX5_callsInAll_46 z13 z14 rfl ?_
        refine s_iadd (pc' := 48) dX5_callsInAll_47 rfl ?_
        refine s_goto (tgt := 52) dX5_callsInAll_48 rfl ?_
        refine s_iadd (pc' := 53) dX5_callsInAll_52 rfl ?_
        obtain ⟨y15, e16⟩ : ∃ q, q = (a1 + (1 + (y7 / (h (wf w a0 6) a2)))) := ⟨_, rfl⟩
        rw [← e16]
        have V := V y15 e16
        refine s_istore_n (pc' := 54) (ls' := [some (vR a0), some (vI y15), some (vI a2), some (vI y7)]) dX5_callsInAll_53 (by decide) rfl rfl ?_
        refine s_iinc (pc' := 57) (ls' := [some (vR a0), some (vI y15), some (vI (a2 + 1)), some (vI y7)]) dX5_callsInAll_54 rfl (by decide) rfl rfl ?_
        refine s_goto (tgt := 4) dX5_callsInAll_57 rfl ?_
        refine s_drop 3 (ls' := [some (vR a0), some (vI y15), some (vI (a2 + 1)), none]) rfl ?_
        exact V
theorem e_X5_kindNamed {w : WS} {h : AH} {Q : Int → AH → Prop} {a0 a1 : Int} (X : XI mX5_kindNamed 0 [some (vR a0), some (vI a1), none] [] w h Q) : CI mX5_kindNamed [vR a0, vI a1] w h Q := CA.of (M := mX5_kindNamed) (by decide) rfl (Nat.le_of_ble_eq_true rfl) X
set_option maxRecDepth 20000 in
theorem r_X5_kindNamed_0 {w : WS} {h : AH} {Q : Int → AH → Prop} {a0 a1 : Int} (V : XI mX5_kindNamed 2 [some (vR a0), some (vI a1), some (vI 0)] [] w h Q) : XI mX5_kindNamed 0 [some (vR a0), some (vI a1), none] [] w h Q := by
  refine s_iconst (pc' := 1) dX5_kindNamed_0 rfl ?_
  refine s_istore_n (pc' := 2) (ls' := [some (vR a0), some (vI a1), some (vI 0)]) dX5_kindNamed_1 (by decide) rfl rfl ?_
  exact V
set_option maxRecDepth 20000 in
theorem r_X5_kindNamed_2 {w : WS} {h : AH} {Q : Int → AH → Prop} {a0 a1 a2 : Int} (V : (wt w a0 = 15 ∧ (inR a2 ∧ inR (h a0 4) ∧ (((h a0 4) ≤ a2 → Q (-1) h) ∧ (¬ (h a0 4) ≤ a2 → (wt w (wf w a0 0) = 1 ∧ 0 ≤ a2 ∧ a2 < wl w (wf w a0 0) ∧ (inR (h (wf w a0 0) a2) ∧ inR a1 ∧ ((¬ (h (wf w a0 0) a2) = a1 → XI mX5_kindNamed 2 [some (vR a0), some (vI a1), some (vI (a2 + 1))] [] w h Q) ∧ ((h (wf w a0 0) a2) = a1 → Q a2 h))))))))) : XI mX5_kindNamed 2 [some (vR a0), some (vI a1), some (vI a2)] [] w h Q := by
  refine s_iload_n (pc' := 3) (x := a2) dX5_kindNamed_2 rfl rfl ?_
  refine s_aload_n (pc' := 4) (x := a0) dX5_kindNamed_3 rfl rfl ?_
  obtain ⟨z1, V⟩ := V
  refine s_get (pc' := 7) (v := vI (h a0 4)) (kc := 5) (i := 4) dX5_kindNamed_4 clX5 (by decide) fl_5_4 z1 (fun _ => rfl) rfl ?_
  obtain ⟨z2, z3, V⟩ := V
  obtain ⟨V11, V12⟩ := V
  refine s_icmp_ge (pc' := 10) (tgt := 28) dX5_kindNamed_7 rfl rfl z2 z3 (fun c => ?_) (fun c => ?_)
  · have V := V11 c
    refine s_iconst (pc' := 29) dX5_kindNamed_28 rfl ?_
    exact s_iret dX5_kindNamed_29 rfl ⟨_, rfl, rfl, V⟩
  · have V := V12 c
    refine s_aload_n (pc' := 11) (x := a0) dX5_kindNamed_10 rfl rfl ?_
    refine s_get (pc' := 14) (v := vR (wf w a0 0)) (kc := 5) (i := 0) dX5_kindNamed_11 clX5 (by decide) fl_5_0 z1 (fun _ => rfl) rfl ?_
    refine s_iload_n (pc' := 15) (x := a2) dX5_kindNamed_14 rfl rfl ?_
    obtain ⟨z4, z5, z6, V⟩ := V
    refine s_iald (pc' := 16) dX5_kindNamed_15 z4 z5 z6 rfl ?_
    refine s_iload_n (pc' := 17) (x := a1) dX5_kindNamed_16 rfl rfl ?_
    obtain ⟨z7, z8, V⟩ := V
    obtain ⟨V9, V10⟩ := V
    refine s_icmp_ne (pc' := 20) (tgt := 22) dX5_kindNamed_17 rfl rfl z7 z8 (fun c => ?_) (fun c => ?_)
    · have V := V9 c
      refine s_iinc (pc' := 25) (ls' := [some (vR a0), some (vI a1), some (vI (a2 + 1))]) dX5_kindNamed_22 rfl (by decide) rfl rfl ?_
      refine s_goto (tgt := 2) dX5_kindNamed_25 rfl ?_
      exact V
    · have V := V10 c
      refine s_iload_n (pc' := 21) (x := a2) dX5_kindNamed_20 rfl rfl ?_
      exact s_iret dX5_kindNamed_21 rfl ⟨_, rfl, rfl, V⟩
theorem e_X5_addKind {w : WS} {h : AH} {Q : AH → Prop} {a0 a1 a2 a3 a4 : Int} (X : XV mX5_addKind 0 [some (vR a0), some (vI a1), some (vI a2), some (vI a3), some (vI a4)] [] w h Q) : CV mX5_addKind [vR a0, vI a1, vI a2, vI a3, vI a4] w h Q := CA.of (M := mX5_addKind) (by decide) rfl (Nat.le_of_ble_eq_true rfl) X
set_option maxRecDepth 20000 in
theorem r_X5_addKind_0 {w : WS} {h : AH} {Q : AH → Prop} {a0 a1 a2 a3 a4 : Int} (V : (wt w a0 = 15 ∧ (inR (h a0 4) ∧ ((8 ≤ (h a0 4) → Q h) ∧ (¬ 8 ≤ (h a0 4) → (wt w (wf w a0 0) = 1 ∧ 0 ≤ (h a0 4) ∧ (h a0 4) < wl w (wf w a0 0) ∧ (∀ h6, h6 = st h (wf w a0 0) (h a0 4) a1 → (wt w (wf w a0 1) = 1 ∧ 0 ≤ (h6 a0 4) ∧ (h6 a0 4) < wl w (wf w a0 1) ∧ (∀ h11, h11 = st h6 (wf w a0 1) (h6 a0 4) a2 → (wt w (wf w a0 2) = 1 ∧ 0 ≤ (h11 a0 4) ∧ (h11 a0 4) < wl w (wf w a0 2) ∧ (∀ h16, h16 = st h11 (wf w a0 2) (h11 a0 4) a3 → (wt w (wf w a0 3) = 1 ∧ 0 ≤ (h16 a0 4) ∧ (h16 a0 4) < wl w (wf w a0 3) ∧ (∀ h21, h21 = st h16 (wf w a0 3) (h16 a0 4) a4 → (∀ h23, h23 = st h21 a0 4 ((h21 a0 4) + 1) → Q h23)))))))))))))) : XV mX5_addKind 0 [some (vR a0), some (vI a1), some (vI a2), some (vI a3), some (vI a4)] [] w h Q := by
  refine s_aload_n (pc' := 1) (x := a0) dX5_addKind_0 rfl rfl ?_
  obtain ⟨z1, V⟩ := V
  refine s_get (pc' := 4) (v := vI (h a0 4)) (kc := 5) (i := 4) dX5_addKind_1 clX5 (by decide) fl_5_4 z1 (fun _ => rfl) rfl ?_
  refine s_bipush (pc' := 6) dX5_addKind_4 (by decide) rfl ?_
  obtain ⟨z2, V⟩ := V
  obtain ⟨V25, V26⟩ := V
  refine s_icmp_ge (pc' := 9) (tgt := 60) dX5_addKind_6 rfl rfl z2 (by decide) (fun c => ?_) (fun c => ?_)
  · have V := V25 c
    exact s_vret dX5_addKind_60 rfl ⟨rfl, rfl, V⟩
  · have V := V26 c
    refine s_aload_n (pc' := 10) (x := a0) dX5_addKind_9 rfl rfl ?_
    refine s_get (pc' := 13) (v := vR (wf w a0 0)) (kc := 5) (i := 0) dX5_addKind_10 clX5 (by decide) fl_5_0 z1 (fun _ => rfl) rfl ?_
    refine s_aload_n (pc' := 14) (x := a0) dX5_addKind_13 rfl rfl ?_
    refine s_get (pc' := 17) (v := vI (h a0 4)) (kc := 5) (i := 4) dX5_addKind_14 clX5 (by decide) fl_5_4 z1 (fun _ => rfl) rfl ?_
    refine s_iload_n (pc' := 18) (x := a1) dX5_addKind_17 rfl rfl ?_
    obtain ⟨z3, z4, z5, V⟩ := V
    refine s_iast (pc' := 19) dX5_addKind_18 z3 z4 z5 rfl ?_
    obtain ⟨h6, e7⟩ : ∃ q, q = st h (wf w a0 0) (h a0 4) a1 := ⟨_, rfl⟩
    rw [← e7]
    have V := V h6 e7
    refine s_aload_n (pc' := 20) (x := a0) dX5_addKind_19 rfl rfl ?_
    refine s_get (pc' := 23) (v := vR (wf w a0 1)) (kc := 5) (i := 1) dX5_addKind_20 clX5 (by decide) fl_5_1 z1 (fun _ => rfl) rfl ?_
    refine s_aload_n (pc' := 24) (x := a0) dX5_addKind_23 rfl rfl ?_
    refine s_get (pc' := 27) (v := vI (h6 a0 4)) (kc := 5) (i := 4) dX5_addKind_24 clX5 (by decide) fl_5_4 z1 (fun _ => rfl) rfl ?_
    refine s_iload_n (pc' := 28) (x := a2) dX5_addKind_27 rfl rfl ?_
    obtain ⟨z8, z9, z10, V⟩ := V
    refine s_iast (pc' := 29) dX5_addKind_28 z8 z9 z10 rfl ?_
    obtain ⟨h11, e12⟩ : ∃ q, q = st h6 (wf w a0 1) (h6 a0 4) a2 := ⟨_, rfl⟩
    rw [← e12]
    have V := V h11 e12
    refine s_aload_n (pc' := 30) (x := a0) dX5_addKind_29 rfl rfl ?_
    refine s_get (pc' := 33) (v := vR (wf w a0 2)) (kc := 5) (i := 2) dX5_addKind_30 clX5 (by decide) fl_5_2 z1 (fun _ => rfl) rfl ?_
    refine s_aload_n (pc' := 34) (x := a0) dX5_addKind_33 rfl rfl ?_
    refine s_get (pc' := 37) (v := vI (h11 a0 4)) (kc := 5) (i := 4) dX5_addKind_34 clX5 (by decide) fl_5_4 z1 (fun _ => rfl) rfl ?_
    refine s_iload_n (pc' := 38) (x := a3) dX5_addKind_37 rfl rfl ?_
    obtain ⟨z13, z14, z15, V⟩ := V
    refine s_iast (pc' := 39) dX5_addKind_38 z13 z14 z15 rfl ?_
    obtain ⟨h16, e17⟩ : ∃ q, q = st h11 (wf w a0 2) (h11 a0 4) a3 := ⟨_, rfl⟩
    rw [← e17]
    have V := V h16 e17
    refine s_aload_n (pc' := 40) (x := a0) dX5_addKind_39 rfl rfl ?_
    refine s_get (pc' := 43) (v := vR (wf w a0 3)) (kc := 5) (i := 3) dX5_addKind_40 clX5 (by decide) fl_5_3 z1 (fun _ => rfl) rfl ?_
    refine s_aload_n (pc' := 44) (x := a0) dX5_addKind_43 rfl rfl ?_
    refine s_get (pc' := 47) (v := vI (h16 a0 4)) (kc := 5) (i := 4) dX5_addKind_44 clX5 (by decide) fl_5_4 z1 (fun _ => rfl) rfl ?_
    refine s_iload (pc' := 49) (x := a4) dX5_addKind_47 rfl rfl ?_
    obtain ⟨z18, z19, z20, V⟩ := V
    refine s_iast (pc' := 50) dX5_addKind_49 z18 z19 z20 rfl ?_
    obtain ⟨h21, e22⟩ : ∃ q, q = st h16 (wf w a0 3) (h16 a0 4) a4 := ⟨_, rfl⟩
    rw [← e22]
    have V := V h21 e22
    refine s_aload_n (pc' := 51) (x := a0) dX5_addKind_50 rfl rfl ?_
    refine s_dup (pc' := 52) dX5_addKind_51 (by intro _ q; cases q) rfl ?_
    refine s_get (pc' := 55) (v := vI (h21 a0 4)) (kc := 5) (i := 4) dX5_addKind_52 clX5 (by decide) fl_5_4 z1 (fun _ => rfl) rfl ?_
    refine s_iconst (pc' := 56) dX5_addKind_55 rfl ?_
    refine s_iadd (pc' := 57) dX5_addKind_56 rfl ?_
    refine s_put (pc' := 60) (v := vI ((h21 a0 4) + 1)) (x := ((h21 a0 4) + 1)) (kc := 5) (i := 4) dX5_addKind_57 clX5 (by decide) fl_5_4 rfl z1 (fun E => nar_int E _) (fun _ _ => rfl) (j0 := 4) rfl rfl ?_
    obtain ⟨h23, e24⟩ : ∃ q, q = st h21 a0 4 ((h21 a0 4) + 1) := ⟨_, rfl⟩
    rw [← e24]
    have V := V h23 e24
    exact s_vret dX5_addKind_60 rfl ⟨rfl, rfl, V⟩
theorem e_X5_addTimer {w : WS} {h : AH} {Q : AH → Prop} {a0 a1 a2 a3 : Int} (X : XV mX5_addTimer 0 [some (vR a0), some (vI a1), some (vI a2), some (vI a3)] [] w h Q) : CV mX5_addTimer [vR a0, vI a1, vI a2, vI a3] w h Q := CA.of (M := mX5_addTimer) (by decide) rfl (Nat.le_of_ble_eq_true rfl) X
set_option maxRecDepth 20000 in
theorem r_X5_addTimer_0 {w : WS} {h : AH} {Q : AH → Prop} {a0 a1 a2 a3 : Int} (V : (wt w a0 = 15 ∧ (inR (h a0 8) ∧ ((24 ≤ (h a0 8) → Q h) ∧ (¬ 24 ≤ (h a0 8) → (wt w (wf w a0 5) = 1 ∧ 0 ≤ (h a0 8) ∧ (h a0 8) < wl w (wf w a0 5) ∧ (∀ h6, h6 = st h (wf w a0 5) (h a0 8) a1 → (wt w (wf w a0 6) = 1 ∧ 0 ≤ (h6 a0 8) ∧ (h6 a0 8) < wl w (wf w a0 6) ∧ (∀ h11, h11 = st h6 (wf w a0 6) (h6 a0 8) a2 → (wt w (wf w a0 7) = 1 ∧ 0 ≤ (h11 a0 8) ∧ (h11 a0 8) < wl w (wf w a0 7) ∧ (∀ h16, h16 = st h11 (wf w a0 7) (h11 a0 8) a3 → (∀ h18, h18 = st h16 a0 8 ((h16 a0 8) + 1) → Q h18)))))))))))) : XV mX5_addTimer 0 [some (vR a0), some (vI a1), some (vI a2), some (vI a3)] [] w h Q := by
  refine s_aload_n (pc' := 1) (x := a0) dX5_addTimer_0 rfl rfl ?_
  obtain ⟨z1, V⟩ := V
  refine s_get (pc' := 4) (v := vI (h a0 8)) (kc := 5) (i := 8) dX5_addTimer_1 clX5 (by decide) fl_5_8 z1 (fun _ => rfl) rfl ?_
  refine s_bipush (pc' := 6) dX5_addTimer_4 (by decide) rfl ?_
  obtain ⟨z2, V⟩ := V
  obtain ⟨V20, V21⟩ := V
  refine s_icmp_ge (pc' := 9) (tgt := 49) dX5_addTimer_6 rfl rfl z2 (by decide) (fun c => ?_) (fun c => ?_)
  · have V := V20 c
    exact s_vret dX5_addTimer_49 rfl ⟨rfl, rfl, V⟩
  · have V := V21 c
    refine s_aload_n (pc' := 10) (x := a0) dX5_addTimer_9 rfl rfl ?_
    refine s_get (pc' := 13) (v := vR (wf w a0 5)) (kc := 5) (i := 5) dX5_addTimer_10 clX5 (by decide) fl_5_5 z1 (fun _ => rfl) rfl ?_
    refine s_aload_n (pc' := 14) (x := a0) dX5_addTimer_13 rfl rfl ?_
    refine s_get (pc' := 17) (v := vI (h a0 8)) (kc := 5) (i := 8) dX5_addTimer_14 clX5 (by decide) fl_5_8 z1 (fun _ => rfl) rfl ?_
    refine s_iload_n (pc' := 18) (x := a1) dX5_addTimer_17 rfl rfl ?_
    obtain ⟨z3, z4, z5, V⟩ := V
    refine s_iast (pc' := 19) dX5_addTimer_18 z3 z4 z5 rfl ?_
    obtain ⟨h6, e7⟩ : ∃ q, q = st h (wf w a0 5) (h a0 8) a1 := ⟨_, rfl⟩
    rw [← e7]
    have V := V h6 e7
    refine s_aload_n (pc' := 20) (x := a0) dX5_addTimer_19 rfl rfl ?_
    refine s_get (pc' := 23) (v := vR (wf w a0 6)) (kc := 5) (i := 6) dX5_addTimer_20 clX5 (by decide) fl_5_6 z1 (fun _ => rfl) rfl ?_
    refine s_aload_n (pc' := 24) (x := a0) dX5_addTimer_23 rfl rfl ?_
    refine s_get (pc' := 27) (v := vI (h6 a0 8)) (kc := 5) (i := 8) dX5_addTimer_24 clX5 (by decide) fl_5_8 z1 (fun _ => rfl) rfl ?_
    refine s_iload_n (pc' := 28) (x := a2) dX5_addTimer_27 rfl rfl ?_
    obtain ⟨z8, z9, z10, V⟩ := V
    refine s_iast (pc' := 29) dX5_addTimer_28 z8 z9 z10 rfl ?_
    obtain ⟨h11, e12⟩ : ∃ q, q = st h6 (wf w a0 6) (h6 a0 8) a2 := ⟨_, rfl⟩
    rw [← e12]
    have V := V h11 e12
    refine s_aload_n (pc' := 30) (x := a0) dX5_addTimer_29 rfl rfl ?_
    refine s_get (pc' := 33) (v := vR (wf w a0 7)) (kc := 5) (i := 7) dX5_addTimer_30 clX5 (by decide) fl_5_7 z1 (fun _ => rfl) rfl ?_
    refine s_aload_n (pc' := 34) (x := a0) dX5_addTimer_33 rfl rfl ?_
    refine s_get (pc' := 37) (v := vI (h11 a0 8)) (kc := 5) (i := 8) dX5_addTimer_34 clX5 (by decide) fl_5_8 z1 (fun _ => rfl) rfl ?_
    refine s_iload_n (pc' := 38) (x := a3) dX5_addTimer_37 rfl rfl ?_
    obtain ⟨z13, z14, z15, V⟩ := V
    refine s_iast (pc' := 39) dX5_addTimer_38 z13 z14 z15 rfl ?_
    obtain ⟨h16, e17⟩ : ∃ q, q = st h11 (wf w a0 7) (h11 a0 8) a3 := ⟨_, rfl⟩
    rw [← e17]
    have V := V h16 e17
    refine s_aload_n (pc' := 40) (x := a0) dX5_addTimer_39 rfl rfl ?_
    refine s_dup (pc' := 41) dX5_addTimer_40 (by intro _ q; cases q) rfl ?_
    refine s_get (pc' := 44) (v := vI (h16 a0 8)) (kc := 5) (i := 8) dX5_addTimer_41 clX5 (by decide) fl_5_8 z1 (fun _ => rfl) rfl ?_
    refine s_iconst (pc' := 45) dX5_addTimer_44 rfl ?_
    refine s_iadd (pc' := 46) dX5_addTimer_45 rfl ?_
    refine s_put (pc' := 49) (v := vI ((h16 a0 8) + 1)) (x := ((h16 a0 8) + 1)) (kc := 5) (i := 8) dX5_addTimer_46 clX5 (by decide) fl_5_8 rfl z1 (fun E => nar_int E _) (fun _ _ => rfl) (j0 := 8) rfl rfl ?_
    obtain ⟨h18, e19⟩ : ∃ q, q = st h16 a0 8 ((h16 a0 8) + 1) := ⟨_, rfl⟩
    rw [← e19]
    have V := V h18 e19
    exact s_vret dX5_addTimer_49 rfl ⟨rfl, rfl, V⟩
theorem e_X5_clear {w : WS} {h : AH} {Q : AH → Prop} {a0 : Int} (X : XV mX5_clear 0 [some (vR a0)] [] w h Q) : CV mX5_clear [vR a0] w h Q := CA.of (M := mX5_clear) (by decide) rfl (Nat.le_of_ble_eq_true rfl) X
set_option maxRecDepth 20000 in
theorem r_X5_clear_0 {w : WS} {h : AH} {Q : AH → Prop} {a0 : Int} (V : (wt w a0 = 15 ∧ (∀ h2, h2 = st h a0 4 0 → (∀ h4, h4 = st h2 a0 8 0 → (∀ h6, h6 = st h4 a0 9 60 → (∀ h8, h8 = st h6 a0 10 10 → (∀ h10, h10 = st h8 a0 11 1 → Q h10))))))) : XV mX5_clear 0 [some (vR a0)] [] w h Q := by
  refine s_aload_n (pc' := 1) (x := a0) dX5_clear_0 rfl rfl ?_
  refine s_iconst (pc' := 2) dX5_clear_1 rfl ?_
  obtain ⟨z1, V⟩ := V
  refine s_put (pc' := 5) (v := vI 0) (x := 0) (kc := 5) (i := 4) dX5_clear_2 clX5 (by decide) fl_5_4 rfl z1 (fun E => nar_int E _) (fun _ _ => rfl) (j0 := 4) rfl rfl ?_
  obtain ⟨h2, e3⟩ : ∃ q, q = st h a0 4 0 := ⟨_, rfl⟩
  rw [← e3]
  have V := V h2 e3
  refine s_aload_n (pc' := 6) (x := a0) dX5_clear_5 rfl rfl ?_
  refine s_iconst (pc' := 7) dX5_clear_6 rfl ?_
  refine s_put (pc' := 10) (v := vI 0) (x := 0) (kc := 5) (i := 8) dX5_clear_7 clX5 (by decide) fl_5_8 rfl z1 (fun E => nar_int E _) (fun _ _ => rfl) (j0 := 8) rfl rfl ?_
  obtain ⟨h4, e5⟩ : ∃ q, q = st h2 a0 8 0 := ⟨_, rfl⟩
  rw [← e5]
  have V := V h4 e5
  refine s_aload_n (pc' := 11) (x := a0) dX5_clear_10 rfl rfl ?_
  refine s_bipush (pc' := 13) dX5_clear_11 (by decide) rfl ?_
  refine s_put (pc' := 16) (v := vI 60) (x := 60) (kc := 5) (i := 9) dX5_clear_13 clX5 (by decide) fl_5_9 rfl z1 (fun E => nar_int E _) (fun _ _ => rfl) (j0 := 9) rfl rfl ?_
  obtain ⟨h6, e7⟩ : ∃ q, q = st h4 a0 9 60 := ⟨_, rfl⟩
  rw [← e7]
  have V := V h6 e7
  refine s_aload_n (pc' := 17) (x := a0) dX5_clear_16 rfl rfl ?_
  refine s_bipush (pc' := 19) dX5_clear_17 (by decide) rfl ?_
  refine s_put (pc' := 22) (v := vI 10) (x := 10) (kc := 5) (i := 10) dX5_clear_19 clX5 (by decide) fl_5_10 rfl z1 (fun E => nar_int E _) (fun _ _ => rfl) (j0 := 10) rfl rfl ?_
  obtain ⟨h8, e9⟩ : ∃ q, q = st h6 a0 10 10 := ⟨_, rfl⟩
  rw [← e9]
  have V := V h8 e9
  refine s_aload_n (pc' := 23) (x := a0) dX5_clear_22 rfl rfl ?_
  refine s_iconst (pc' := 24) dX5_clear_23 rfl ?_
  refine s_put (pc' := 27) (v := vI 1) (x := 1) (kc := 5) (i := 11) dX5_clear_24 clX5 (by decide) fl_5_11 rfl z1 (fun E => nar_int E _) (fun _ _ => rfl) (j0 := 11) rfl rfl ?_
  obtain ⟨h10, e11⟩ : ∃ q, q = st h8 a0 11 1 := ⟨_, rfl⟩
  rw [← e11]
  have V := V h10 e11
  exact s_vret dX5_clear_27 rfl ⟨rfl, rfl, V⟩
