theorem e_X4_tickAt {w : WS} {h : AH} {Q : Int → AH → Prop} {a0 a1 : Int} (X : XI mX4_tickAt 0 [some (vR a0), some (vI a1), none, none] [] w h Q) : CI mX4_tickAt [vR a0, vI a1] w h Q := CA.of (M := mX4_tickAt) (by decide) rfl (Nat.le_of_ble_eq_true rfl) X
set_option maxRecDepth 20000 in
theorem r_X4_tickAt_0 {w : WS} {h : AH} {Q : Int → AH → Prop} {a0 a1 : Int} (V : (inR a1 ∧ ((a1 < 0 → Q (-1) h) ∧ (¬ a1 < 0 → (wt w a0 = 14 ∧ (inR (h a0 4) ∧ ((a1 < (h a0 4) → XI mX4_tickAt 21 [some (vR a0), some (vI a1), some (vI (h a0 5)), some (vI 0)] [] w h Q) ∧ (¬ a1 < (h a0 4) → Q (-1) h)))))))) : XI mX4_tickAt 0 [some (vR a0), some (vI a1), none, none] [] w h Q := by
  refine s_iload_n (pc' := 1) (x := a1) dX4_tickAt_0 rfl rfl ?_
  obtain ⟨z1, V⟩ := V
  obtain ⟨V6, V7⟩ := V
  refine s_if_lt (pc' := 4) (tgt := 12) dX4_tickAt_1 rfl rfl z1 (fun c => ?_) (fun c => ?_)
  · have V := V6 c
    refine s_iconst (pc' := 13) dX4_tickAt_12 rfl ?_
    exact s_iret dX4_tickAt_13 rfl ⟨_, rfl, rfl, V⟩
  · have V := V7 c
    refine s_iload_n (pc' := 5) (x := a1) dX4_tickAt_4 rfl rfl ?_
    refine s_aload_n (pc' := 6) (x := a0) dX4_tickAt_5 rfl rfl ?_
    obtain ⟨z2, V⟩ := V
    refine s_get (pc' := 9) (v := vI (h a0 4)) (kc := 4) (i := 4) dX4_tickAt_6 clX4 (by decide) fl_4_4 z2 (fun _ => rfl) rfl ?_
    obtain ⟨z3, V⟩ := V
    obtain ⟨V4, V5⟩ := V
    refine s_icmp_lt (pc' := 12) (tgt := 14) dX4_tickAt_9 rfl rfl z1 z3 (fun c => ?_) (fun c => ?_)
    · have V := V4 c
      refine s_aload_n (pc' := 15) (x := a0) dX4_tickAt_14 rfl rfl ?_
      refine s_get (pc' := 18) (v := vI (h a0 5)) (kc := 4) (i := 5) dX4_tickAt_15 clX4 (by decide) fl_4_5 z2 (fun _ => rfl) rfl ?_
      refine s_istore_n (pc' := 19) (ls' := [some (vR a0), some (vI a1), some (vI (h a0 5)), none]) dX4_tickAt_18 (by decide) rfl rfl ?_
      refine s_iconst (pc' := 20) dX4_tickAt_19 rfl ?_
      refine s_istore_n (pc' := 21) (ls' := [some (vR a0), some (vI a1), some (vI (h a0 5)), some (vI 0)]) dX4_tickAt_20 (by decide) rfl rfl ?_
      exact V
    · have V := V5 c
      refine s_iconst (pc' := 13) dX4_tickAt_12 rfl ?_
      exact s_iret dX4_tickAt_13 rfl ⟨_, rfl, rfl, V⟩
set_option maxRecDepth 20000 in
theorem r_X4_tickAt_21 {w : WS} {h : AH} {Q : Int → AH → Prop} {a0 a1 a2 a3 : Int} (V : (inR a3 ∧ inR a1 ∧ ((a1 ≤ a3 → Q a2 h) ∧ (¬ a1 ≤ a3 → (wt w a0 = 14 ∧ (inR (h a0 2) ∧ (((h a0 2) ≤ 0 → Q a2 h) ∧ (¬ (h a0 2) ≤ 0 → (inR a2 ∧ ((a2 < 0 → Q a2 h) ∧ (¬ a2 < 0 → (wt w (wf w a0 1) = 1 ∧ (inR (wl w (wf w a0 1)) ∧ (((wl w (wf w a0 1)) ≤ a2 → Q a2 h) ∧ (¬ (wl w (wf w a0 1)) ≤ a2 → (0 ≤ a2 ∧ a2 < wl w (wf w a0 1) ∧ ((0 ≤ (a2 + (h (wf w a0 1) a2)) ∧ (a2 + (h (wf w a0 1) a2)) ≤ 2147483647) ∧ (0 < (h a0 2) ∧ (h a0 2) ≤ 2147483647) ∧ (∀ y12, y12 = ((a2 + (h (wf w a0 1) a2)) % (h a0 2)) → XI mX4_tickAt 21 [some (vR a0), some (vI a1), some (vI y12), some (vI (a3 + 1))] [] w h Q)))))))))))))))))) : XI mX4_tickAt 21 [some (vR a0), some (vI a1), some (vI a2), some (vI a3)] [] w h Q := by
  refine s_iload_n (pc' := 22) (x := a3) dX4_tickAt_21 rfl rfl ?_
  refine s_iload_n (pc' := 23) (x := a1) dX4_tickAt_22 rfl rfl ?_
  obtain ⟨z1, z2, V⟩ := V
  obtain ⟨V20, V21⟩ := V
  refine s_icmp_ge (pc' := 26) (tgt := 66) dX4_tickAt_23 rfl rfl z1 z2 (fun c => ?_) (fun c => ?_)
  · have V := V20 c
    refine s_iload_n (pc' := 67) (x := a2) dX4_tickAt_66 rfl rfl ?_
    exact s_iret dX4_tickAt_67 rfl ⟨_, rfl, rfl, V⟩
  · have V := V21 c
    refine s_aload_n (pc' := 27) (x := a0) dX4_tickAt_26 rfl rfl ?_
    obtain ⟨z3, V⟩ := V
    refine s_get (pc' := 30) (v := vI (h a0 2)) (kc := 4) (i := 2) dX4_tickAt_27 clX4 (by decide) fl_4_2 z3 (fun _ => rfl) rfl ?_
    obtain ⟨z4, V⟩ := V
    obtain ⟨V18, V19⟩ := V
    refine s_if_le (pc' := 33) (tgt := 66) dX4_tickAt_30 rfl rfl z4 (fun c => ?_) (fun c => ?_)
    · have V := V18 c
      refine s_iload_n (pc' := 67) (x := a2) dX4_tickAt_66 rfl rfl ?_
      exact s_iret dX4_tickAt_67 rfl ⟨_, rfl, rfl, V⟩
    · have V := V19 c
      refine s_iload_n (pc' := 34) (x := a2) dX4_tickAt_33 rfl rfl ?_
      obtain ⟨z5, V⟩ := V
      obtain ⟨V16, V17⟩ := V
      refine s_if_lt (pc' := 37) (tgt := 66) dX4_tickAt_34 rfl rfl z5 (fun c => ?_) (fun c => ?_)
      · have V := V16 c
        refine s_iload_n (pc' := 67) (x := a2) dX4_tickAt_66 rfl rfl ?_
        exact s_iret dX4_tickAt_67 rfl ⟨_, rfl, rfl, V⟩
      · have V := V17 c
        refine s_iload_n (pc' := 38) (x := a2) dX4_tickAt_37 rfl rfl ?_
        refine s_aload_n (pc' := 39) (x := a0) dX4_tickAt_38 rfl rfl ?_
        refine s_get (pc' := 42) (v := vR (wf w a0 1)) (kc := 4) (i := 1) dX4_tickAt_39 clX4 (by decide) fl_4_1 z3 (fun _ => rfl) rfl ?_
        obtain ⟨z6, V⟩ := V
        refine s_alen1 (pc' := 43) dX4_tickAt_42 z6 rfl ?_
        obtain ⟨z7, V⟩ := V
        obtain ⟨V14, V15⟩ := V
        refine s_icmp_ge (pc' := 46) (tgt := 66) dX4_tickAt_43 rfl rfl z5 z7 (fun c => ?_) (fun c => ?_)
        · have V := V14 c
          refine s_iload_n (pc' := 67) (x := a2) dX4_tickAt_66 rfl rfl ?_
          exact s_iret dX4_tickAt_67 rfl ⟨_, rfl, rfl, V⟩
        · have V := V15 c
          refine s_iload_n (pc' := 47) (x := a2) dX4_tickAt_46 rfl rfl ?_
          refine s_aload_n (pc' := 48) (x := a0) dX4_tickAt_47 rfl rfl ?_
          refine s_get (pc' := 51) (v := vR (wf w a0 1)) (kc := 4) (i := 1) dX4_tickAt_48 clX4 (by decide) fl_4_1 z3 (fun _ => rfl) rfl ?_
          refine s_iload_n (pc' := 52) (x := a2) dX4_tickAt_51 rfl rfl ?_
          obtain ⟨z8, z9, V⟩ := V
          refine s_iald (pc' := 53) dX4_tickAt_52 z6 z8 z9 rfl ?_
          refine s_iadd (pc' := 54) dX4_tickAt_53 rfl ?_
          refine s_aload_n (pc' := 55) (x := a0) dX4_tickAt_54 rfl rfl ?_
          refine s_get (pc' := 58) (v := vI (h a0 2)) (kc := 4) (i := 2) dX4_tickAt_55 clX4 (by decide) fl_4_2 z3 (fun _ => rfl) rfl ?_
          obtain ⟨z10, z11, V⟩ := V
          refine s_irem (pc' := 59) dX4_tickAt_58 z10 z11 rfl ?_
          obtain ⟨y12, e13⟩ : ∃ q, q = ((a2 + (h (wf w a0 1) a2)) % (h a0 2)) := ⟨_, rfl⟩
          rw [← e13]
          have V := V y12 e13
          refine s_istore_n (pc' := 60) (ls' := [some (vR a0), some (vI a1), some (vI y12), some (vI a3)]) dX4_tickAt_59 (by decide) rfl rfl ?_
          refine s_iinc (pc' := 63) (ls' := [some (vR a0), some (vI a1), some (vI y12), some (vI (a3 + 1))]) dX4_tickAt_60 rfl (by decide) rfl rfl ?_
          refine s_goto (tgt := 21) dX4_tickAt_63 rfl ?_
          exact V
theorem e_X4_make {w : WS} {h : AH} {Q : AH → Prop} {a0 a1 : Int} (X : XV mX4_make 0 [some (vR a0), some (vR a1)] [] w h Q) : CV mX4_make [vR a0, vR a1] w h Q := CA.of (M := mX4_make) (by decide) rfl (Nat.le_of_ble_eq_true rfl) X
set_option maxRecDepth 20000 in
theorem r_X4_make_0 {w : WS} {h : AH} {Q : AH → Prop} {a0 a1 : Int} (V : (wt w a0 = 14 ∧ (∀ h2, h2 = st h a0 4 0 → CI mX4_hyperOf [vR a1] w h2 (fun x5 h4 => (∀ h6, h6 = st h4 a0 2 x5 → CI mX4_callsOf [vR a0, vR a1] w h6 (fun x9 h8 => (∀ h10, h10 = st h8 a0 3 x9 → (inR (h10 a0 3) ∧ (((h10 a0 3) = 0 → Q h10) ∧ (¬ (h10 a0 3) = 0 → (((h10 a0 3) ≤ 400 → CV mX4_fillSlacks [vR a0, vR a1] w h10 (fun h13 => CV mX4_fillReach [vR a0] w h13 (fun h14 => CV mX4_choose [vR a0] w h14 (fun h15 => Q h15)))) ∧ (¬ (h10 a0 3) ≤ 400 → Q h10)))))))))))) : XV mX4_make 0 [some (vR a0), some (vR a1)] [] w h Q := by
  refine s_aload_n (pc' := 1) (x := a0) dX4_make_0 rfl rfl ?_
  refine s_iconst (pc' := 2) dX4_make_1 rfl ?_
  obtain ⟨z1, V⟩ := V
  refine s_put (pc' := 5) (v := vI 0) (x := 0) (kc := 4) (i := 4) dX4_make_2 clX4 (by decide) fl_4_4 rfl z1 (fun E => nar_int E _) (fun _ _ => rfl) (j0 := 4) rfl rfl ?_
  obtain ⟨h2, e3⟩ : ∃ q, q = st h a0 4 0 := ⟨_, rfl⟩
  rw [← e3]
  have V := V h2 e3
  refine s_aload_n (pc' := 6) (x := a0) dX4_make_5 rfl rfl ?_
  refine s_aload_n (pc' := 7) (x := a1) dX4_make_6 rfl rfl ?_
  refine s_callS (pc' := 10) (av := [vR a1]) (sk := [vR a0]) dX4_make_7 ml_4_31 okX4_hyperOf osX4_hyperOf (by decide) rfl (Nat.le_of_ble_eq_true rfl) (Nat.le_refl 0) (Nat.le_refl 0) rfl (CI.on V (fun x5 h4 V => ?_))
  refine s_put (pc' := 13) (v := vI x5) (x := x5) (kc := 4) (i := 2) dX4_make_10 clX4 (by decide) fl_4_2 rfl z1 (fun E => nar_int E _) (fun _ _ => rfl) (j0 := 2) rfl rfl ?_
  obtain ⟨h6, e7⟩ : ∃ q, q = st h4 a0 2 x5 := ⟨_, rfl⟩
  rw [← e7]
  have V := V h6 e7
  refine s_aload_n (pc' := 14) (x := a0) dX4_make_13 rfl rfl ?_
  refine s_aload_n (pc' := 15) (x := a0) dX4_make_14 rfl rfl ?_
  refine s_aload_n (pc' := 16) (x := a1) dX4_make_15 rfl rfl ?_
  refine s_callV (pc' := 19) (av := [vR a1]) (a := a0) (sk := [vR a0]) (kc := 4) dX4_make_16 ml_4_35 okX4_callsOf oiX4_callsOf (by decide) (NF := 6) rfl z1 rfl (Nat.le_of_ble_eq_true rfl) (Nat.le_refl 0) (Nat.le_refl 0) rfl (CI.on V (fun x9 h8 V => ?_))
  refine s_put (pc' := 22) (v := vI x9) (x := x9) (kc := 4) (i := 3) dX4_make_19 clX4 (by decide) fl_4_3 rfl z1 (fun E => nar_int E _) (fun _ _ => rfl) (j0 := 3) rfl rfl ?_
  obtain ⟨h10, e11⟩ : ∃ q, q = st h8 a0 3 x9 := ⟨_, rfl⟩
  rw [← e11]
  have V := V h10 e11
  refine s_aload_n (pc' := 23) (x := a0) dX4_make_22 rfl rfl ?_
  refine s_get (pc' := 26) (v := vI (h10 a0 3)) (kc := 4) (i := 3) dX4_make_23 clX4 (by decide) fl_4_3 z1 (fun _ => rfl) rfl ?_
  obtain ⟨z12, V⟩ := V
  obtain ⟨V18, V19⟩ := V
  refine s_if_eq (pc' := 29) (tgt := 39) dX4_make_26 rfl rfl z12 (fun c => ?_) (fun c => ?_)
  · have V := V18 c
    exact s_vret dX4_make_39 rfl ⟨rfl, rfl, V⟩
  · have V := V19 c
    refine s_aload_n (pc' := 30) (x := a0) dX4_make_29 rfl rfl ?_
    refine s_get (pc' := 33) (v := vI (h10 a0 3)) (kc := 4) (i := 3) dX4_make_30 clX4 (by decide) fl_4_3 z1 (fun _ => rfl) rfl ?_
    refine s_sipush (pc' := 36) dX4_make_33 (by decide) rfl ?_
    obtain ⟨V16, V17⟩ := V
    refine s_icmp_le (pc' := 39) (tgt := 40) dX4_make_36 rfl rfl z12 (by decide) (fun c => ?_) (fun c => ?_)
    · have V := V16 c
      refine s_aload_n (pc' := 41) (x := a0) dX4_make_40 rfl rfl ?_
      refine s_aload_n (pc' := 42) (x := a1) dX4_make_41 rfl rfl ?_
      refine s_callV (pc' := 45) (av := [vR a1]) (a := a0) (sk := []) (kc := 4) dX4_make_42 ml_4_38 okX4_fillSlacks oiX4_fillSlacks (by decide) (NF := 6) rfl z1 rfl (Nat.le_of_ble_eq_true rfl) (Nat.le_refl 0) (Nat.le_refl 0) rfl (CV.on V (fun h13 V => ?_))
      refine s_aload_n (pc' := 46) (x := a0) dX4_make_45 rfl rfl ?_
      refine s_callV (pc' := 49) (av := []) (a := a0) (sk := []) (kc := 4) dX4_make_46 ml_4_42 okX4_fillReach oiX4_fillReach (by decide) (NF := 6) rfl z1 rfl (Nat.le_of_ble_eq_true rfl) (Nat.le_refl 0) (Nat.le_refl 0) rfl (CV.on V (fun h14 V => ?_))
      refine s_aload_n (pc' := 50) (x := a0) dX4_make_49 rfl rfl ?_
      refine s_callV (pc' := 53) (av := []) (a := a0) (sk := []) (kc := 4) dX4_make_50 ml_4_45 okX4_choose oiX4_choose (by decide) (NF := 6) rfl z1 rfl (Nat.le_of_ble_eq_true rfl) (Nat.le_refl 0) (Nat.le_refl 0) rfl (CV.on V (fun h15 V => ?_))
      exact s_vret dX4_make_53 rfl ⟨rfl, rfl, V⟩
    · have V := V17 c
      exact s_vret dX4_make_39 rfl ⟨rfl, rfl, V⟩
section
variable {w : WS} {h : AH} {r o : Int} {S : Int → Int}
theorem c_X4_tickAt {H p k : Int} {m : Nat} (sr : shRound w r) (ok : okS S) (any : anyT S) (hp : perH S H) (hr : h r 2 = H) (hH : H ≤ 360) (hR : ∀ u, 0 ≤ u → u < H → h (r + 2) u = nl S u - u) (h5 : h r 5 = p) (h4 : h r 4 = m) (hm : (m : Int) ≤ H) (h0 : 0 ≤ p) (h1 : p < H) (k0 : 0 ≤ k) (k1 : k < m) : CI mX4_tickAt [vR r, vI k] w h (fun x h' => x = itn S k.toNat p % H ∧ h' = h) := by
  obtain ⟨s0, f0, f1, ⟨t1, t2⟩, l1, l2⟩ := sr
  have H0 := hp.1
  have key : ∀ (d j : Nat), j + d = k.toNat → XI mX4_tickAt 21 [some (vR r), some (vI k), some (vI (itn S j p % H)), some (vI j)] [] w h (fun x h' => x = itn S k.toNat p % H ∧ h' = h) := by
    intro d
    induction d with
    | zero =>
      intro j hj
      refine r_X4_tickAt_21 ⟨by omega, by omega, fun q => ⟨by rw [show j = k.toNat by omega], rfl⟩, fun q => absurd q (by omega)⟩
    | succ d ih =>
      intro j hj
      have g := itn_ge ok any h0 j
      have m1 := Int.emod_nonneg (itn S j p) (show H ≠ 0 by omega)
      have m2 := Int.emod_lt_of_pos (itn S j p) H0
      have n1 := nl_gt ok any (t := itn S j p % H) (by omega)
      have ra := hR (itn S j p % H) m1 m2
      refine r_X4_tickAt_21 ?_
      rw [f1, hr, l2, ra]
      refine ⟨by omega, by omega, fun q => absurd q (by omega), fun q => ⟨s0, by omega, fun q2 => absurd q2 (by omega), fun q2 => ⟨by omega, fun q3 => absurd q3 (by omega), fun q3 => ⟨t2, by decide, fun q4 => absurd q4 (by omega), fun q4 => ⟨m1, by omega, by omega, by omega, ?_⟩⟩⟩⟩⟩
      intro y ey
      have e1 : y = itn S (j + 1) p % H := by
        have hq : itn S j p = itn S j p % H + (itn S j p / H).toNat * H := by
          have e := Int.emod_add_mul_ediv (itn S j p) H
          have nn := Int.ediv_nonneg (show 0 ≤ itn S j p by omega) (show 0 ≤ H by omega)
          rw [show (((itn S j p / H).toNat : Nat) : Int) = itn S j p / H by omega, Int.mul_comm]
          omega
        have per : ∀ (c : Nat) (t : Int), 0 ≤ t → nl S (t + c * H) = nl S t + c * H := by
          intro c
          induction c with
          | zero => intro t t0; rw [show ((0 : Nat) : Int) * H = 0 by rw [Int.natCast_zero, Int.zero_mul], Int.add_zero, Int.add_zero]
          | succ c ic =>
            intro t t0
            have z : 0 ≤ (c : Int) * H := Int.mul_nonneg (by omega) (by omega)
            have e := nl_per ok any (t := t + c * H) hp (by omega)
            have e2 : (((c + 1 : Nat) : Int)) * H = c * H + H := by rw [Int.natCast_add, Int.add_mul]; omega
            have e3 := ic t t0
            rw [e2, show t + (c * H + H) = t + c * H + H by omega, e, e3]; omega
        rw [itn, ey, show itn S j p % H + (nl S (itn S j p % H) - itn S j p % H) = nl S (itn S j p % H) by omega]
        have pe := per (itn S j p / H).toNat (itn S j p % H) m1
        rw [← hq] at pe
        rw [pe, Int.add_mul_emod_self_right]
      rw [e1]
      exact ih (j + 1) (by omega)
  refine e_X4_tickAt (r_X4_tickAt_0 ?_)
  rw [h4, h5]
  refine ⟨by omega, fun q => absurd q (by omega), fun q => ⟨s0, by omega, fun q2 => ?_, fun q2 => absurd k1 q2⟩⟩
  have := key k.toNat 0 (by omega)
  rw [show itn S 0 p = p from rfl, Int.emod_eq_of_lt h0 h1] at this
  exact this
/-- how many ticks a hyperperiod has, by the class (0: no round) -/
def hypC (S : Int → Int) : Int := if hyp S (S 97).toNat = -1 then 0 else hyp S (S 97).toNat
/-- a round is asked for and may stand -/
def rdE (S : Int → Int) : Prop := 0 < hyp S (S 97).toNat ∧ cyc S (hyp S (S 97).toNat) (S 97).toNat ≤ 400
/-- what a Round holds once made -/
def rdS (S : Int → Int) (h : AH) (r : Int) : Prop := h r 2 = hypC S ∧ h r 3 = cyc S (hypC S) (S 97).toNat ∧ ((rdE S ∧ (∃ m : Nat, h r 4 = m ∧ 0 < m ∧ roundS S (hypC S) (h r 5) m) ∧ ∀ u, 0 ≤ u → u < hypC S → h (r + 2) u = nl S u - u) ∨ (¬ rdE S ∧ h r 4 = 0))
theorem hypC_r (S : Int → Int) : 0 ≤ hypC S ∧ hypC S ≤ 360 := by
  have := hyp_r S (S 97).toNat
  rw [hypC]; split <;> omega
theorem cyc_0 (S : Int → Int) : ∀ i : Nat, cyc S 0 i = 0 := by
  intro i
  induction i with
  | zero => rfl
  | succ i ih => rw [cyc, ih, Int.zero_ediv]; split <;> rfl
theorem cyc_pos (ok : okS S) {H : Int} (hp : perH S H) (h3 : H ≤ 360) : ∀ i : Nat, (i : Int) ≤ S 97 → (∃ k : Nat, k < i ∧ 0 < S (48 + k)) → 0 < cyc S H i := by
  intro i
  induction i with
  | zero => rintro - ⟨k, k1, -⟩; omega
  | succ i ih =>
    rintro hi ⟨k, k1, k2⟩
    have c0 := (cyc_r ok (H := H) ⟨by have := hp.1; omega, h3⟩ i (by omega)).1
    rw [cyc]
    by_cases e : k = i
    · rw [e] at k2
      rw [if_neg (by omega)]
      have d := hp.2 (i : Int) ⟨⟨by omega, by omega⟩, k2⟩
      have le := Int.le_of_dvd hp.1 d
      have : 0 < H / S (48 + i) := Int.ediv_pos_of_pos_of_dvd hp.1 (by omega) d
      omega
    · have := ih (by omega) ⟨k, by omega, k2⟩
      split
      · omega
      · have : 0 ≤ H / S (48 + i) := Int.ediv_nonneg (by have := hp.1; omega) (by omega)
        omega
theorem c_X4_make (sr : shRound w r) (ss : shSetup w o) (hS : isS h o S) (ok : okS S) (hd : r + 2 < o ∨ o + 7 < r) : CV mX4_make [vR r, vR o] w h (fun h' => rdS S h' r ∧ ∀ b, b ≠ r → b ≠ r + 1 → b ≠ r + 2 → h' b = h b) := by
  have s0 := sr.1
  have hr := hypC_r S
  have hT := ok.2.1
  have cr := cyc_r ok hr (S 97).toNat (by omega)
  refine e_X4_make (r_X4_make_0 ⟨s0, fun h2 e2 => ?_⟩)
  have hS2 := isS_frame hS (h' := h2) (fun b b1 b2 => by rw [e2, st_row _ _ _ (by omega)])
  refine (c_X4_hyperOf ss hS2 ok).eq ?_
  intro h6 e6
  have hS6 := isS_frame hS2 (h' := h6) (fun b b1 b2 => by rw [e6, st_row _ _ _ (by omega)])
  have r6 : h6 r 2 = hypC S := by rw [e6, st_same]; rfl
  refine (c_X4_callsOf s0 ss hS6 ok r6 hr).eq ?_
  intro h10 e10
  have hS10 := isS_frame hS6 (h' := h10) (fun b b1 b2 => by rw [e10, st_row _ _ _ (by omega)])
  have x2 : h10 r 2 = hypC S := by rw [e10, st_slot _ _ _ _ (by decide), r6]
  have x3 : h10 r 3 = cyc S (hypC S) (S 97).toNat := by rw [e10, st_same]
  have x4 : h10 r 4 = 0 := by rw [e10, st_slot _ _ _ _ (by decide), e6, st_slot _ _ _ _ (by decide), e2, st_same]
  have fr : ∀ b, b ≠ r → h10 b = h b := fun b hb => by rw [e10, st_row _ _ _ hb, e6, st_row _ _ _ hb, e2, st_row _ _ _ hb]
  rw [x3]
  refine ⟨by omega, fun q => ⟨⟨x2, x3, Or.inr ⟨?_, x4⟩⟩, fun b b1 _ _ => fr b b1⟩, fun q => ⟨fun q2 => ?_, fun q2 => ⟨⟨x2, x3, Or.inr ⟨?_, x4⟩⟩, fun b b1 _ _ => fr b b1⟩⟩⟩
  · rintro ⟨a, b⟩
    obtain ⟨p1, k, ⟨k0, k1⟩, k2⟩ := hyp_perH ok a
    have e : hypC S = hyp S (S 97).toNat := by rw [hypC, if_neg (by omega)]
    have := cyc_pos ok p1 (by omega) (S 97).toNat (by omega) ⟨k.toNat, by omega, by rw [show ((k.toNat : Nat) : Int) = k by omega]; exact k2⟩
    rw [e] at q
    omega
  · have hne : hypC S ≠ 0 := fun z => q (by rw [z]; exact cyc_0 S _)
    have e : hypC S = hyp S (S 97).toNat := by
      by_cases z : hyp S (S 97).toNat = -1
      · exact absurd (by rw [hypC, if_pos z]) hne
      · rw [hypC, if_neg z]
    obtain ⟨p1, any⟩ := hyp_perH ok (show 0 < hyp S (S 97).toNat by omega)
    rw [← e] at p1
    have rE : rdE S := ⟨by omega, by rw [← e]; exact q2⟩
    refine (c_X4_fillSlacks sr ss hS10 ok x2 ⟨by omega, hr.2⟩ hd).mono ?_
    rintro h13 ⟨g1, g2⟩
    have y2 : h13 r 2 = hypC S := by rw [g2 r (by omega)]; exact x2
    refine (c_X4_fillReach sr ok any p1 y2 hr.2 g1).mono ?_
    rintro h14 ⟨g3, g4⟩
    have z2 : h14 r = h10 r := by rw [g4 r (by omega), g2 r (by omega)]
    refine (c_X4_choose sr ok any p1 (by rw [z2]; exact x2) hr.2 g3 (by rw [z2]; exact x4)).mono ?_
    rintro h15 ⟨g5, g6, g7⟩
    exact ⟨⟨by rw [g6 2 (by decide) (by decide), z2]; exact x2, by rw [g6 3 (by decide) (by decide), z2]; exact x3, Or.inl ⟨rE, g5, fun u u0 u1 => by rw [g7 (r + 2) (by omega)]; exact g3 u u0 u1⟩⟩, fun b b1 b2 b3 => by rw [g7 b b1, g4 b b3, g2 b b2]; exact fr b b1⟩
  · rintro ⟨a, b⟩
    have e : hypC S = hyp S (S 97).toNat := by rw [hypC, if_neg (by omega)]
    rw [e] at q2
    exact q2 b
end
