theorem c_X3_tape0 {w : WS} {h : AH} (ht : wt w 2 = 13) (hf : wf w 2 0 = 3) : CA mX3_tape [vR 2] w h 0 0 (fun r w' h' => ∃ x, r = some (vR x) ∧ w' = w ∧ x = 3 ∧ h' = h) := by
  refine CA.of (M := mX3_tape) (by decide) rfl (Nat.le_of_ble_eq_true rfl) ?_
  show XA mX3_tape 0 [some (vR 2)] [] w h 0 0 _
  refine s_aload_n (pc' := 1) (x := 2) dX3_tape_0 rfl rfl ?_
  refine s_getF (pc' := 4) (b := 3) (kc := 3) (i := 0) dX3_tape_1 clX3 (by decide) fl_3_0 ht hf (fun _ => rfl) rfl ?_
  exact s_aret dX3_tape_4 rfl ⟨_, rfl⟩ ⟨_, rfl, rfl, rfl, rfl⟩
set_option maxHeartbeats 8000000 in
set_option maxRecDepth 20000 in
theorem r_X8_init {w : WS} {h : AH} {Q : Option AV → WS → AH → Prop} (hw : (w.1 : Int) = 1) (tS : wt w 1 = 18) (V : ∀ w1 h1, nw w h w1 h1 2 13 0 → ∀ w3 h3, pX3 w1 h1 w3 h3 2 → ∀ w5, fn w3 w5 1 1 2 → ∀ w7, fn w5 w7 1 0 3 → ∀ w9 h9, nw w7 h3 w9 h9 5 15 0 → ∀ w11 h11, pX5 w9 h9 w11 h11 5 → ∀ h13, sn h11 h13 1 2 5 → ∀ w15 h15, nw w11 h13 w15 h15 13 15 0 → ∀ w17 h17, pX5 w15 h15 w17 h17 13 → ∀ h19, sn h17 h19 1 3 13 → ∀ w21 h21, nw w17 h19 w21 h21 21 10 0 → ∀ w23 h23, pX0 w21 h21 w23 h23 21 200 → ∀ w25, fn w23 w25 1 4 21 → ∀ w27 h27, nw w25 h23 w27 h27 26 5 6 → ∀ w29, fn w27 w29 1 5 26 → ∀ w31 h31, nw w29 h27 w31 h31 27 17 0 → ∀ w33 h33, pX7 w31 h31 w33 h33 27 200 → ∀ h35, sn h33 h35 26 0 27 → ∀ w37 h37, nw w33 h35 w37 h37 29 17 0 → ∀ w39 h39, pX7 w37 h37 w39 h39 29 200 → ∀ h41, sn h39 h41 26 1 29 → ∀ w43 h43, nw w39 h41 w43 h43 31 17 0 → ∀ w45 h45, pX7 w43 h43 w45 h45 31 200 → ∀ h47, sn h45 h47 26 2 31 → ∀ w49 h49, nw w45 h47 w49 h49 33 17 0 → ∀ w51 h51, pX7 w49 h49 w51 h51 33 200 → ∀ h53, sn h51 h53 26 3 33 → ∀ w55 h55, nw w51 h53 w55 h55 35 17 0 → ∀ w57 h57, pX7 w55 h55 w57 h57 35 200 → ∀ h59, sn h57 h59 26 4 35 → ∀ w61 h61, nw w57 h59 w61 h61 37 17 0 → ∀ w63 h63, pX7 w61 h61 w63 h63 37 200 → ∀ h65, sn h63 h65 26 5 37 → ∀ w67 h67, nw w63 h65 w67 h67 39 3 6 → ∀ w69, fn w67 w69 1 6 39 → ∀ w71 h71, nw w69 h67 w71 h71 40 12 0 → ∀ w73 h73, pX2 w71 h71 w73 h73 40 → ∀ w75, fn w73 w75 1 7 40 → ∀ w77 h77, nw w75 h73 w77 h77 44 11 0 → ∀ w79 h79, pX1 w77 h77 w79 h79 44 → ∀ w81, fn w79 w81 1 8 44 → ∀ w83 h83, nw w81 h79 w83 h83 52 14 0 → ∀ w85 h85, pX4 w83 h83 w85 h85 52 → ∀ w87, fn w85 w87 1 9 52 → ∀ w89 h89, nw w87 h85 w89 h89 55 10 0 → ∀ w91 h91, pX0 w89 h89 w91 h91 55 200 → ∀ w93, fn w91 w93 1 11 55 → ∀ w95 h95, nw w93 h91 w95 h95 60 17 0 → ∀ w97 h97, pX7 w95 h95 w97 h97 60 200 → ∀ w99, fn w97 w99 1 12 60 → ∀ w101 h101, nw w99 h97 w101 h101 62 14 0 → ∀ w103 h103, pX4 w101 h101 w103 h103 62 → ∀ w105, fn w103 w105 1 13 62 → Q none w105 h103) : CA mX8_init [vR 1] w h 63 (7756) Q := by
  refine CA.of (M := mX8_init) (by decide) rfl (Nat.le_of_ble_eq_true rfl) ?_
  show XA mX8_init 0 [some (vR 1), none] [] w h 63 (7756) Q
  have cW := hw
  refine s_aload_n (pc' := 1) (x := 1) dX8_init_0 rfl rfl ?_
  refine s_obj (pc' := 4) dX8_init_1 ml_8_1 oin oic (by decide) (by decide) (Nat.le_of_ble_eq_true rfl) rfl ?_
  refine s_aload_n (pc' := 5) (x := 1) dX8_init_4 rfl rfl ?_
  refine t_new (d := 2) (k := 62) (n := 7753) (pc' := 8) dX8_init_5 clX3 ck_8_7 cn_3 ci_3 fdX3 rfl (Eq.trans (congrArg (fun z : Int => z + 1) cW) rfl) (fun w1 h1 n2 => ?_)
  replace V := V w1 h1 n2
  have tS : wt w1 1 = 18 := (n2.2.2.2.2.2.1 1 (by decide)).trans tS
  have cW := n2.1
  refine s_dup (pc' := 9) dX8_init_8 (fun x q => by cases q) rfl ?_
  refine s_callIN (host := RX8) (N := mX3_init) (k1 := 2) (n1 := 606) (av := []) (a := 2) (sk := [vR 2, vR 1]) (pc' := 12) dX8_init_9 (by decide) okX3_init onX3_init rfl rfl (by decide) (by decide) rfl (Nat.le_of_ble_eq_true rfl) (Nat.le_of_ble_eq_true rfl) (Nat.le_of_ble_eq_true rfl) rfl ((c_X3_init n2.1 (by decide) n2.2.1 n2.2.2.2.2.1).mono ?_)
  rintro r w3 h3 ⟨rfl, p4⟩
  show XA mX8_init 12 [some (vR 1), none] [vR 2, vR 1] w3 h3 60 7147 Q
  replace V := V w3 h3 p4
  have tS : wt w3 1 = 18 := (p4.1.2.1 1 (by decide)).trans tS
  have cW := p4.1.1
  refine t_putF (pc' := 15) (j := 1) (kc := 8) (i := 1) dX8_init_12 clX8 (by decide) fl_8_1 rfl rfl rfl tS (fun E => nar_ref E _ _ rfl) (fun _ _ => rfl) rfl rfl (fun w5 f6 => ?_)
  replace V := V w5 f6
  have tS : wt w5 1 = 18 := (f6.2.1 1).trans tS
  have cW : (w5.1 : Int) = 4 := (congrArg (fun z : Nat => (z : Int)) f6.1).trans cW
  have g1 : wf w5 1 1 = 2 := f6.2.2.2.1
  have tRd : wt w5 2 = 13 := (f6.2.1 2).trans p4.2.1
  have fRd : wf w5 2 0 = 3 := (f6.2.2.2.2 2 0 (Or.inl (by decide))).trans p4.2.2.1
  refine s_aload_n (pc' := 16) (x := 1) dX8_init_15 rfl rfl ?_
  refine s_aload_n (pc' := 17) (x := 1) dX8_init_16 rfl rfl ?_
  refine s_getF (pc' := 20) (b := 2) (kc := 8) (i := 1) dX8_init_17 clX8 (by decide) fl_8_1 tS g1 (fun _ => rfl) rfl ?_
  refine s_callV (pc' := 23) (k1 := 0) (n1 := 0) (av := []) (a := 2) (sk := [vR 1]) (kc := 3) dX8_init_20 ml_8_16 okX3_tape oiX3_tape (by decide) (NF := 3) rfl tRd rfl (Nat.le_of_ble_eq_true rfl) (Nat.zero_le _) (Nat.zero_le _) rfl ((c_X3_tape0 tRd fRd).mono ?_)
  rintro r w_ h_ ⟨x_, er_, ew_, ex_, eh_⟩
  rw [er_, ew_, eh_, ex_]
  show XA mX8_init 23 [some (vR 1), none] [vR 3, vR 1] w5 h3 60 7147 Q
  refine t_putF (pc' := 26) (j := 0) (kc := 8) (i := 0) dX8_init_23 clX8 (by decide) fl_8_0 rfl rfl rfl tS (fun E => nar_ref E _ _ rfl) (fun _ _ => rfl) rfl rfl (fun w7 f8 => ?_)
  replace V := V w7 f8
  have tS : wt w7 1 = 18 := (f8.2.1 1).trans tS
  have cW : (w7.1 : Int) = 4 := (congrArg (fun z : Nat => (z : Int)) f8.1).trans cW
  refine s_aload_n (pc' := 27) (x := 1) dX8_init_26 rfl rfl ?_
  refine t_new (d := 5) (k := 59) (n := 7135) (pc' := 30) dX8_init_27 clX5 ck_8_23 cn_5 ci_5 fdX5 rfl (Eq.trans (congrArg (fun z : Int => z + 1) cW) rfl) (fun w9 h9 n10 => ?_)
  replace V := V w9 h9 n10
  have tS : wt w9 1 = 18 := (n10.2.2.2.2.2.1 1 (by decide)).trans tS
  have cW := n10.1
  refine s_dup (pc' := 31) dX8_init_30 (fun x q => by cases q) rfl ?_
  refine s_callI (N := mX5_init) (k1 := 7) (n1 := 104) (av := []) (a := 5) (sk := [vR 5, vR 1]) (pc' := 34) dX8_init_31 ml_8_25 okX5_init onX5_init rfl rfl (by decide) (by decide) rfl (Nat.le_of_ble_eq_true rfl) (Nat.le_of_ble_eq_true rfl) (Nat.le_of_ble_eq_true rfl) rfl ((c_X5_init n10.1 (by decide) n10.2.1 n10.2.2.2.2.1).mono ?_)
  rintro r w11 h11 ⟨rfl, p12⟩
  show XA mX8_init 34 [some (vR 1), none] [vR 5, vR 1] w11 h11 52 7031 Q
  replace V := V w11 h11 p12
  have tS : wt w11 1 = 18 := (p12.1.2.1 1 (by decide)).trans tS
  have cW := p12.1.1
  refine s_put (pc' := 37) (v := vR 5) (x := 5) (kc := 8) (i := 2) dX8_init_34 clX8 (by decide) fl_8_2 rfl tS (fun E => nar_ref E _ _ rfl) (fun _ _ => rfl) (j0 := 2) rfl rfl ?_
  have s14 := sn_st h11 1 2 5
  revert s14
  generalize st h11 1 2 5 = h13
  intro s14
  replace V := V h13 s14
  refine s_aload_n (pc' := 38) (x := 1) dX8_init_37 rfl rfl ?_
  refine t_new (d := 13) (k := 51) (n := 7019) (pc' := 41) dX8_init_38 clX5 ck_8_23 cn_5 ci_5 fdX5 rfl (Eq.trans (congrArg (fun z : Int => z + 1) cW) rfl) (fun w15 h15 n16 => ?_)
  replace V := V w15 h15 n16
  have tS : wt w15 1 = 18 := (n16.2.2.2.2.2.1 1 (by decide)).trans tS
  have cW := n16.1
  refine s_dup (pc' := 42) dX8_init_41 (fun x q => by cases q) rfl ?_
  refine s_callI (N := mX5_init) (k1 := 7) (n1 := 104) (av := []) (a := 13) (sk := [vR 13, vR 1]) (pc' := 45) dX8_init_42 ml_8_25 okX5_init onX5_init rfl rfl (by decide) (by decide) rfl (Nat.le_of_ble_eq_true rfl) (Nat.le_of_ble_eq_true rfl) (Nat.le_of_ble_eq_true rfl) rfl ((c_X5_init n16.1 (by decide) n16.2.1 n16.2.2.2.2.1).mono ?_)
  rintro r w17 h17 ⟨rfl, p18⟩
  show XA mX8_init 45 [some (vR 1), none] [vR 13, vR 1] w17 h17 44 6915 Q
  replace V := V w17 h17 p18
  have tS : wt w17 1 = 18 := (p18.1.2.1 1 (by decide)).trans tS
  have cW := p18.1.1
  refine s_put (pc' := 48) (v := vR 13) (x := 13) (kc := 8) (i := 3) dX8_init_45 clX8 (by decide) fl_8_3 rfl tS (fun E => nar_ref E _ _ rfl) (fun _ _ => rfl) (j0 := 3) rfl rfl ?_
  have s20 := sn_st h17 1 3 13
  revert s20
  generalize st h17 1 3 13 = h19
  intro s20
  replace V := V h19 s20
  refine s_aload_n (pc' := 49) (x := 1) dX8_init_48 rfl rfl ?_
  refine t_new (d := 21) (k := 43) (n := 6910) (pc' := 52) dX8_init_49 clX0 ck_8_33 cn_0 ci_0 fdX0 rfl (Eq.trans (congrArg (fun z : Int => z + 1) cW) rfl) (fun w21 h21 n22 => ?_)
  replace V := V w21 h21 n22
  have tS : wt w21 1 = 18 := (n22.2.2.2.2.2.1 1 (by decide)).trans tS
  have cW := n22.1
  refine s_dup (pc' := 53) dX8_init_52 (fun x q => by cases q) rfl ?_
  refine s_sipush (pc' := 56) dX8_init_53 (by decide) rfl ?_
  refine s_callI (N := mX0_init) (k1 := 4) (n1 := 0 + 200 + 200 + 200 + 200) (av := [vI 200]) (a := 21) (sk := [vR 21, vR 1]) (pc' := 59) dX8_init_56 ml_8_35 okX0_init onX0_init rfl rfl (by decide) (by decide) rfl (Nat.le_of_ble_eq_true rfl) (Nat.le_of_ble_eq_true rfl) (Nat.le_of_ble_eq_true rfl) rfl ((c_X0_init (L := 200) n22.1 (by decide) n22.2.1 n22.2.2.2.2.1 (by decide) (by decide)).mono ?_)
  rintro r w23 h23 ⟨rfl, p24⟩
  show XA mX8_init 59 [some (vR 1), none] [vR 21, vR 1] w23 h23 39 6110 Q
  replace V := V w23 h23 p24
  have tS : wt w23 1 = 18 := (p24.1.2.1 1 (by decide)).trans tS
  have cW := p24.1.1
  refine t_putF (pc' := 62) (j := 4) (kc := 8) (i := 4) dX8_init_59 clX8 (by decide) fl_8_4 rfl rfl rfl tS (fun E => nar_ref E _ _ rfl) (fun _ _ => rfl) rfl rfl (fun w25 f26 => ?_)
  replace V := V w25 f26
  have tS : wt w25 1 = 18 := (f26.2.1 1).trans tS
  have cW : (w25.1 : Int) = 25 := (congrArg (fun z : Nat => (z : Int)) f26.1).trans cW
  refine s_aload_n (pc' := 63) (x := 1) dX8_init_62 rfl rfl ?_
  refine s_bipush (pc' := 65) dX8_init_63 (by decide) rfl ?_
  refine t_anew (d := 26) (L := 6) (k := 38) (n := 6104) (pc' := 68) dX8_init_65 ck_8_42 rfl (by decide) rfl (Eq.trans (congrArg (fun z : Int => z + 1) cW) rfl) (fun w27 h27 n28 => ?_)
  replace V := V w27 h27 n28
  have tS : wt w27 1 = 18 := (n28.2.2.2.2.2.1 1 (by decide)).trans tS
  have cW := n28.1
  have tP : wt w27 26 = 5 := n28.2.1
  have lP : wn w27 26 = 6 := n28.2.2.1
  refine t_putF (pc' := 71) (j := 5) (kc := 8) (i := 5) dX8_init_68 clX8 (by decide) fl_8_5 rfl rfl rfl tS (fun E => nar_ref E _ _ rfl) (fun _ _ => rfl) rfl rfl (fun w29 f30 => ?_)
  replace V := V w29 f30
  have tS : wt w29 1 = 18 := (f30.2.1 1).trans tS
  have tP : wt w29 26 = 5 := (f30.2.1 26).trans tP
  have lP : wn w29 26 = 6 := (f30.2.2.1 26).trans lP
  have cW : (w29.1 : Int) = 26 := (congrArg (fun z : Nat => (z : Int)) f30.1).trans cW
  have g5 : wf w29 1 5 = 26 := f30.2.2.2.1
  refine s_iconst (pc' := 72) dX8_init_71 rfl ?_
  refine s_istore_n (pc' := 73) (ls' := [some (vR 1), some (vI 0)]) dX8_init_72 (by decide) rfl rfl ?_
  refine s_iload_n (pc' := 74) (x := 0) dX8_init_73 rfl rfl ?_
  refine s_aload_n (pc' := 75) (x := 1) dX8_init_74 rfl rfl ?_
  refine s_getF (pc' := 78) (b := 26) (kc := 8) (i := 5) dX8_init_75 clX8 (by decide) fl_8_5 tS g5 (fun _ => rfl) rfl ?_
  refine s_alen5 (pc' := 79) dX8_init_78 tP rfl ?_
  rw [show wl w29 26 = 6 by unfold wl; rw [lP]; rfl]
  refine s_icmp_ge (pc' := 82) (tgt := 104) dX8_init_79 rfl rfl (by decide) (by decide) (fun c => absurd c (by decide)) (fun c => ?_)
  refine s_aload_n (pc' := 83) (x := 1) dX8_init_82 rfl rfl ?_
  refine s_getF (pc' := 86) (b := 26) (kc := 8) (i := 5) dX8_init_83 clX8 (by decide) fl_8_5 tS g5 (fun _ => rfl) rfl ?_
  refine s_iload_n (pc' := 87) (x := 0) dX8_init_86 rfl rfl ?_
  refine t_new (d := 27) (k := 37) (n := 6102) (pc' := 90) dX8_init_87 clX7 ck_8_42 cn_7 ci_7 fdX7 rfl (Eq.trans (congrArg (fun z : Int => z + 1) cW) rfl) (fun w31 h31 n32 => ?_)
  replace V := V w31 h31 n32
  have tS : wt w31 1 = 18 := (n32.2.2.2.2.2.1 1 (by decide)).trans tS
  have tP : wt w31 26 = 5 := (n32.2.2.2.2.2.1 26 (by decide)).trans tP
  have lP : wn w31 26 = 6 := (n32.2.2.2.2.2.2.1 26 (by decide)).trans lP
  have cW := n32.1
  have g5 : wf w31 1 5 = 26 := (n32.2.2.2.2.2.2.2.1 1 5 (by decide)).trans g5
  refine s_dup (pc' := 91) dX8_init_90 (fun x q => by cases q) rfl ?_
  refine s_sipush (pc' := 94) dX8_init_91 (by decide) rfl ?_
  refine s_callI (N := mX7_init) (k1 := 1) (n1 := 0 + 200) (av := [vI 200]) (a := 27) (sk := [vR 27, vI 0, vR 26]) (pc' := 97) dX8_init_94 ml_8_48 okX7_init onX7_init rfl rfl (by decide) (by decide) rfl (Nat.le_of_ble_eq_true rfl) (Nat.le_of_ble_eq_true rfl) (Nat.le_of_ble_eq_true rfl) rfl ((c_X7_init (L := 200) n32.1 (by decide) n32.2.1 n32.2.2.2.2.1 (by decide) (by decide)).mono ?_)
  rintro r w33 h33 ⟨rfl, p34⟩
  show XA mX8_init 97 [some (vR 1), some (vI 0)] [vR 27, vI 0, vR 26] w33 h33 36 5902 Q
  replace V := V w33 h33 p34
  have tS : wt w33 1 = 18 := (p34.1.2.1 1 (by decide)).trans tS
  have tP : wt w33 26 = 5 := (p34.1.2.1 26 (by decide)).trans tP
  have lP : wn w33 26 = 6 := (p34.1.2.2.1 26 (by decide)).trans lP
  have cW := p34.1.1
  have tX := p34.2.1.1
  have g5 : wf w33 1 5 = 26 := (p34.1.2.2.2.1 1 5 (by decide)).trans g5
  refine s_aast (pc' := 98) dX8_init_97 tP (by decide) (by unfold wl; rw [lP]; decide) tX rfl ?_
  have s36 := sn_st h33 26 0 27
  revert s36
  generalize st h33 26 0 27 = h35
  intro s36
  replace V := V h35 s36
  refine s_iinc (pc' := 101) (ls' := [some (vR 1), some (vI 1)]) dX8_init_98 rfl (by decide) rfl rfl ?_
  refine s_goto (tgt := 73) dX8_init_101 rfl ?_
  refine s_iload_n (pc' := 74) (x := 1) dX8_init_73 rfl rfl ?_
  refine s_aload_n (pc' := 75) (x := 1) dX8_init_74 rfl rfl ?_
  refine s_getF (pc' := 78) (b := 26) (kc := 8) (i := 5) dX8_init_75 clX8 (by decide) fl_8_5 tS g5 (fun _ => rfl) rfl ?_
  refine s_alen5 (pc' := 79) dX8_init_78 tP rfl ?_
  rw [show wl w33 26 = 6 by unfold wl; rw [lP]; rfl]
  refine s_icmp_ge (pc' := 82) (tgt := 104) dX8_init_79 rfl rfl (by decide) (by decide) (fun c => absurd c (by decide)) (fun c => ?_)
  refine s_aload_n (pc' := 83) (x := 1) dX8_init_82 rfl rfl ?_
  refine s_getF (pc' := 86) (b := 26) (kc := 8) (i := 5) dX8_init_83 clX8 (by decide) fl_8_5 tS g5 (fun _ => rfl) rfl ?_
  refine s_iload_n (pc' := 87) (x := 1) dX8_init_86 rfl rfl ?_
  refine t_new (d := 29) (k := 35) (n := 5900) (pc' := 90) dX8_init_87 clX7 ck_8_42 cn_7 ci_7 fdX7 rfl (Eq.trans (congrArg (fun z : Int => z + 1) cW) rfl) (fun w37 h37 n38 => ?_)
  replace V := V w37 h37 n38
  have tS : wt w37 1 = 18 := (n38.2.2.2.2.2.1 1 (by decide)).trans tS
  have tP : wt w37 26 = 5 := (n38.2.2.2.2.2.1 26 (by decide)).trans tP
  have lP : wn w37 26 = 6 := (n38.2.2.2.2.2.2.1 26 (by decide)).trans lP
  have cW := n38.1
  have g5 : wf w37 1 5 = 26 := (n38.2.2.2.2.2.2.2.1 1 5 (by decide)).trans g5
  refine s_dup (pc' := 91) dX8_init_90 (fun x q => by cases q) rfl ?_
  refine s_sipush (pc' := 94) dX8_init_91 (by decide) rfl ?_
  refine s_callI (N := mX7_init) (k1 := 1) (n1 := 0 + 200) (av := [vI 200]) (a := 29) (sk := [vR 29, vI 1, vR 26]) (pc' := 97) dX8_init_94 ml_8_48 okX7_init onX7_init rfl rfl (by decide) (by decide) rfl (Nat.le_of_ble_eq_true rfl) (Nat.le_of_ble_eq_true rfl) (Nat.le_of_ble_eq_true rfl) rfl ((c_X7_init (L := 200) n38.1 (by decide) n38.2.1 n38.2.2.2.2.1 (by decide) (by decide)).mono ?_)
  rintro r w39 h39 ⟨rfl, p40⟩
  show XA mX8_init 97 [some (vR 1), some (vI 1)] [vR 29, vI 1, vR 26] w39 h39 34 5700 Q
  replace V := V w39 h39 p40
  have tS : wt w39 1 = 18 := (p40.1.2.1 1 (by decide)).trans tS
  have tP : wt w39 26 = 5 := (p40.1.2.1 26 (by decide)).trans tP
  have lP : wn w39 26 = 6 := (p40.1.2.2.1 26 (by decide)).trans lP
  have cW := p40.1.1
  have tX := p40.2.1.1
  have g5 : wf w39 1 5 = 26 := (p40.1.2.2.2.1 1 5 (by decide)).trans g5
  refine s_aast (pc' := 98) dX8_init_97 tP (by decide) (by unfold wl; rw [lP]; decide) tX rfl ?_
  have s42 := sn_st h39 26 1 29
  revert s42
  generalize st h39 26 1 29 = h41
  intro s42
  replace V := V h41 s42
  refine s_iinc (pc' := 101) (ls' := [some (vR 1), some (vI 2)]) dX8_init_98 rfl (by decide) rfl rfl ?_
  refine s_goto (tgt := 73) dX8_init_101 rfl ?_
  refine s_iload_n (pc' := 74) (x := 2) dX8_init_73 rfl rfl ?_
  refine s_aload_n (pc' := 75) (x := 1) dX8_init_74 rfl rfl ?_
  refine s_getF (pc' := 78) (b := 26) (kc := 8) (i := 5) dX8_init_75 clX8 (by decide) fl_8_5 tS g5 (fun _ => rfl) rfl ?_
  refine s_alen5 (pc' := 79) dX8_init_78 tP rfl ?_
  rw [show wl w39 26 = 6 by unfold wl; rw [lP]; rfl]
  refine s_icmp_ge (pc' := 82) (tgt := 104) dX8_init_79 rfl rfl (by decide) (by decide) (fun c => absurd c (by decide)) (fun c => ?_)
  refine s_aload_n (pc' := 83) (x := 1) dX8_init_82 rfl rfl ?_
  refine s_getF (pc' := 86) (b := 26) (kc := 8) (i := 5) dX8_init_83 clX8 (by decide) fl_8_5 tS g5 (fun _ => rfl) rfl ?_
  refine s_iload_n (pc' := 87) (x := 2) dX8_init_86 rfl rfl ?_
  refine t_new (d := 31) (k := 33) (n := 5698) (pc' := 90) dX8_init_87 clX7 ck_8_42 cn_7 ci_7 fdX7 rfl (Eq.trans (congrArg (fun z : Int => z + 1) cW) rfl) (fun w43 h43 n44 => ?_)
  replace V := V w43 h43 n44
  have tS : wt w43 1 = 18 := (n44.2.2.2.2.2.1 1 (by decide)).trans tS
  have tP : wt w43 26 = 5 := (n44.2.2.2.2.2.1 26 (by decide)).trans tP
  have lP : wn w43 26 = 6 := (n44.2.2.2.2.2.2.1 26 (by decide)).trans lP
  have cW := n44.1
  have g5 : wf w43 1 5 = 26 := (n44.2.2.2.2.2.2.2.1 1 5 (by decide)).trans g5
  refine s_dup (pc' := 91) dX8_init_90 (fun x q => by cases q) rfl ?_
  refine s_sipush (pc' := 94) dX8_init_91 (by decide) rfl ?_
  refine s_callI (N := mX7_init) (k1 := 1) (n1 := 0 + 200) (av := [vI 200]) (a := 31) (sk := [vR 31, vI 2, vR 26]) (pc' := 97) dX8_init_94 ml_8_48 okX7_init onX7_init rfl rfl (by decide) (by decide) rfl (Nat.le_of_ble_eq_true rfl) (Nat.le_of_ble_eq_true rfl) (Nat.le_of_ble_eq_true rfl) rfl ((c_X7_init (L := 200) n44.1 (by decide) n44.2.1 n44.2.2.2.2.1 (by decide) (by decide)).mono ?_)
  rintro r w45 h45 ⟨rfl, p46⟩
  show XA mX8_init 97 [some (vR 1), some (vI 2)] [vR 31, vI 2, vR 26] w45 h45 32 5498 Q
  replace V := V w45 h45 p46
  have tS : wt w45 1 = 18 := (p46.1.2.1 1 (by decide)).trans tS
  have tP : wt w45 26 = 5 := (p46.1.2.1 26 (by decide)).trans tP
  have lP : wn w45 26 = 6 := (p46.1.2.2.1 26 (by decide)).trans lP
  have cW := p46.1.1
  have tX := p46.2.1.1
  have g5 : wf w45 1 5 = 26 := (p46.1.2.2.2.1 1 5 (by decide)).trans g5
  refine s_aast (pc' := 98) dX8_init_97 tP (by decide) (by unfold wl; rw [lP]; decide) tX rfl ?_
  have s48 := sn_st h45 26 2 31
  revert s48
  generalize st h45 26 2 31 = h47
  intro s48
  replace V := V h47 s48
  refine s_iinc (pc' := 101) (ls' := [some (vR 1), some (vI 3)]) dX8_init_98 rfl (by decide) rfl rfl ?_
  refine s_goto (tgt := 73) dX8_init_101 rfl ?_
  refine s_iload_n (pc' := 74) (x := 3) dX8_init_73 rfl rfl ?_
  refine s_aload_n (pc' := 75) (x := 1) dX8_init_74 rfl rfl ?_
  refine s_getF (pc' := 78) (b := 26) (kc := 8) (i := 5) dX8_init_75 clX8 (by decide) fl_8_5 tS g5 (fun _ => rfl) rfl ?_
  refine s_alen5 (pc' := 79) dX8_init_78 tP rfl ?_
  rw [show wl w45 26 = 6 by unfold wl; rw [lP]; rfl]
  refine s_icmp_ge (pc' := 82) (tgt := 104) dX8_init_79 rfl rfl (by decide) (by decide) (fun c => absurd c (by decide)) (fun c => ?_)
  refine s_aload_n (pc' := 83) (x := 1) dX8_init_82 rfl rfl ?_
  refine s_getF (pc' := 86) (b := 26) (kc := 8) (i := 5) dX8_init_83 clX8 (by decide) fl_8_5 tS g5 (fun _ => rfl) rfl ?_
  refine s_iload_n (pc' := 87) (x := 3) dX8_init_86 rfl rfl ?_
  refine t_new (d := 33) (k := 31) (n := 5496) (pc' := 90) dX8_init_87 clX7 ck_8_42 cn_7 ci_7 fdX7 rfl (Eq.trans (congrArg (fun z : Int => z + 1) cW) rfl) (fun w49 h49 n50 => ?_)
  replace V := V w49 h49 n50
  have tS : wt w49 1 = 18 := (n50.2.2.2.2.2.1 1 (by decide)).trans tS
  have tP : wt w49 26 = 5 := (n50.2.2.2.2.2.1 26 (by decide)).trans tP
  have lP : wn w49 26 = 6 := (n50.2.2.2.2.2.2.1 26 (by decide)).trans lP
  have cW := n50.1
  have g5 : wf w49 1 5 = 26 := (n50.2.2.2.2.2.2.2.1 1 5 (by decide)).trans g5
  refine s_dup (pc' := 91) dX8_init_90 (fun x q => by cases q) rfl ?_
  refine s_sipush (pc' := 94) dX8_init_91 (by decide) rfl ?_
  refine s_callI (N := mX7_init) (k1 := 1) (n1 := 0 + 200) (av := [vI 200]) (a := 33) (sk := [vR 33, vI 3, vR 26]) (pc' := 97) dX8_init_94 ml_8_48 okX7_init onX7_init rfl rfl (by decide) (by decide) rfl (Nat.le_of_ble_eq_true rfl) (Nat.le_of_ble_eq_true rfl) (Nat.le_of_ble_eq_true rfl) rfl ((c_X7_init (L := 200) n50.1 (by decide) n50.2.1 n50.2.2.2.2.1 (by decide) (by decide)).mono ?_)
  rintro r w51 h51 ⟨rfl, p52⟩
  show XA mX8_init 97 [some (vR 1), some (vI 3)] [vR 33, vI 3, vR 26] w51 h51 30 5296 Q
  replace V := V w51 h51 p52
  have tS : wt w51 1 = 18 := (p52.1.2.1 1 (by decide)).trans tS
  have tP : wt w51 26 = 5 := (p52.1.2.1 26 (by decide)).trans tP
  have lP : wn w51 26 = 6 := (p52.1.2.2.1 26 (by decide)).trans lP
  have cW := p52.1.1
  have tX := p52.2.1.1
  have g5 : wf w51 1 5 = 26 := (p52.1.2.2.2.1 1 5 (by decide)).trans g5
  refine s_aast (pc' := 98) dX8_init_97 tP (by decide) (by unfold wl; rw [lP]; decide) tX rfl ?_
  have s54 := sn_st h51 26 3 33
  revert s54
  generalize st h51 26 3 33 = h53
  intro s54
  replace V := V h53 s54
  refine s_iinc (pc' := 101) (ls' := [some (vR 1), some (vI 4)]) dX8_init_98 rfl (by decide) rfl rfl ?_
  refine s_goto (tgt := 73) dX8_init_101 rfl ?_
  refine s_iload_n (pc' := 74) (x := 4) dX8_init_73 rfl rfl ?_
  refine s_aload_n (pc' := 75) (x := 1) dX8_init_74 rfl rfl ?_
  refine s_getF (pc' := 78) (b := 26) (kc := 8) (i := 5) dX8_init_75 clX8 (by decide) fl_8_5 tS g5 (fun _ => rfl) rfl ?_
  refine s_alen5 (pc' := 79) dX8_init_78 tP rfl ?_
  rw [show wl w51 26 = 6 by unfold wl; rw [lP]; rfl]
  refine s_icmp_ge (pc' := 82) (tgt := 104) dX8_init_79 rfl rfl (by decide) (by decide) (fun c => absurd c (by decide)) (fun c => ?_)
  refine s_aload_n (pc' := 83) (x := 1) dX8_init_82 rfl rfl ?_
  refine s_getF (pc' := 86) (b := 26) (kc := 8) (i := 5) dX8_init_83 clX8 (by decide) fl_8_5 tS g5 (fun _ => rfl) rfl ?_
  refine s_iload_n (pc' := 87) (x := 4) dX8_init_86 rfl rfl ?_
  refine t_new (d := 35) (k := 29) (n := 5294) (pc' := 90) dX8_init_87 clX7 ck_8_42 cn_7 ci_7 fdX7 rfl (Eq.trans (congrArg (fun z : Int => z + 1) cW) rfl) (fun w55 h55 n56 => ?_)
  replace V := V w55 h55 n56
  have tS : wt w55 1 = 18 := (n56.2.2.2.2.2.1 1 (by decide)).trans tS
  have tP : wt w55 26 = 5 := (n56.2.2.2.2.2.1 26 (by decide)).trans tP
  have lP : wn w55 26 = 6 := (n56.2.2.2.2.2.2.1 26 (by decide)).trans lP
  have cW := n56.1
  have g5 : wf w55 1 5 = 26 := (n56.2.2.2.2.2.2.2.1 1 5 (by decide)).trans g5
  refine s_dup (pc' := 91) dX8_init_90 (fun x q => by cases q) rfl ?_
  refine s_sipush (pc' := 94) dX8_init_91 (by decide) rfl ?_
  refine s_callI (N := mX7_init) (k1 := 1) (n1 := 0 + 200) (av := [vI 200]) (a := 35) (sk := [vR 35, vI 4, vR 26]) (pc' := 97) dX8_init_94 ml_8_48 okX7_init onX7_init rfl rfl (by decide) (by decide) rfl (Nat.le_of_ble_eq_true rfl) (Nat.le_of_ble_eq_true rfl) (Nat.le_of_ble_eq_true rfl) rfl ((c_X7_init (L := 200) n56.1 (by decide) n56.2.1 n56.2.2.2.2.1 (by decide) (by decide)).mono ?_)
  rintro r w57 h57 ⟨rfl, p58⟩
  show XA mX8_init 97 [some (vR 1), some (vI 4)] [vR 35, vI 4, vR 26] w57 h57 28 5094 Q
  replace V := V w57 h57 p58
  have tS : wt w57 1 = 18 := (p58.1.2.1 1 (by decide)).trans tS
  have tP : wt w57 26 = 5 := (p58.1.2.1 26 (by decide)).trans tP
  have lP : wn w57 26 = 6 := (p58.1.2.2.1 26 (by decide)).trans lP
  have cW := p58.1.1
  have tX := p58.2.1.1
  have g5 : wf w57 1 5 = 26 := (p58.1.2.2.2.1 1 5 (by decide)).trans g5
  refine s_aast (pc' := 98) dX8_init_97 tP (by decide) (by unfold wl; rw [lP]; decide) tX rfl ?_
  have s60 := sn_st h57 26 4 35
  revert s60
  generalize st h57 26 4 35 = h59
  intro s60
  replace V := V h59 s60
  refine s_iinc (pc' := 101) (ls' := [some (vR 1), some (vI 5)]) dX8_init_98 rfl (by decide) rfl rfl ?_
  refine s_goto (tgt := 73) dX8_init_101 rfl ?_
  refine s_iload_n (pc' := 74) (x := 5) dX8_init_73 rfl rfl ?_
  refine s_aload_n (pc' := 75) (x := 1) dX8_init_74 rfl rfl ?_
  refine s_getF (pc' := 78) (b := 26) (kc := 8) (i := 5) dX8_init_75 clX8 (by decide) fl_8_5 tS g5 (fun _ => rfl) rfl ?_
  refine s_alen5 (pc' := 79) dX8_init_78 tP rfl ?_
  rw [show wl w57 26 = 6 by unfold wl; rw [lP]; rfl]
  refine s_icmp_ge (pc' := 82) (tgt := 104) dX8_init_79 rfl rfl (by decide) (by decide) (fun c => absurd c (by decide)) (fun c => ?_)
  refine s_aload_n (pc' := 83) (x := 1) dX8_init_82 rfl rfl ?_
  refine s_getF (pc' := 86) (b := 26) (kc := 8) (i := 5) dX8_init_83 clX8 (by decide) fl_8_5 tS g5 (fun _ => rfl) rfl ?_
  refine s_iload_n (pc' := 87) (x := 5) dX8_init_86 rfl rfl ?_
  refine t_new (d := 37) (k := 27) (n := 5092) (pc' := 90) dX8_init_87 clX7 ck_8_42 cn_7 ci_7 fdX7 rfl (Eq.trans (congrArg (fun z : Int => z + 1) cW) rfl) (fun w61 h61 n62 => ?_)
  replace V := V w61 h61 n62
  have tS : wt w61 1 = 18 := (n62.2.2.2.2.2.1 1 (by decide)).trans tS
  have tP : wt w61 26 = 5 := (n62.2.2.2.2.2.1 26 (by decide)).trans tP
  have lP : wn w61 26 = 6 := (n62.2.2.2.2.2.2.1 26 (by decide)).trans lP
  have cW := n62.1
  have g5 : wf w61 1 5 = 26 := (n62.2.2.2.2.2.2.2.1 1 5 (by decide)).trans g5
  refine s_dup (pc' := 91) dX8_init_90 (fun x q => by cases q) rfl ?_
  refine s_sipush (pc' := 94) dX8_init_91 (by decide) rfl ?_
  refine s_callI (N := mX7_init) (k1 := 1) (n1 := 0 + 200) (av := [vI 200]) (a := 37) (sk := [vR 37, vI 5, vR 26]) (pc' := 97) dX8_init_94 ml_8_48 okX7_init onX7_init rfl rfl (by decide) (by decide) rfl (Nat.le_of_ble_eq_true rfl) (Nat.le_of_ble_eq_true rfl) (Nat.le_of_ble_eq_true rfl) rfl ((c_X7_init (L := 200) n62.1 (by decide) n62.2.1 n62.2.2.2.2.1 (by decide) (by decide)).mono ?_)
  rintro r w63 h63 ⟨rfl, p64⟩
  show XA mX8_init 97 [some (vR 1), some (vI 5)] [vR 37, vI 5, vR 26] w63 h63 26 4892 Q
  replace V := V w63 h63 p64
  have tS : wt w63 1 = 18 := (p64.1.2.1 1 (by decide)).trans tS
  have tP : wt w63 26 = 5 := (p64.1.2.1 26 (by decide)).trans tP
  have lP : wn w63 26 = 6 := (p64.1.2.2.1 26 (by decide)).trans lP
  have cW := p64.1.1
  have tX := p64.2.1.1
  have g5 : wf w63 1 5 = 26 := (p64.1.2.2.2.1 1 5 (by decide)).trans g5
  refine s_aast (pc' := 98) dX8_init_97 tP (by decide) (by unfold wl; rw [lP]; decide) tX rfl ?_
  have s66 := sn_st h63 26 5 37
  revert s66
  generalize st h63 26 5 37 = h65
  intro s66
  replace V := V h65 s66
  refine s_iinc (pc' := 101) (ls' := [some (vR 1), some (vI 6)]) dX8_init_98 rfl (by decide) rfl rfl ?_
  refine s_goto (tgt := 73) dX8_init_101 rfl ?_
  refine s_iload_n (pc' := 74) (x := 6) dX8_init_73 rfl rfl ?_
  refine s_aload_n (pc' := 75) (x := 1) dX8_init_74 rfl rfl ?_
  refine s_getF (pc' := 78) (b := 26) (kc := 8) (i := 5) dX8_init_75 clX8 (by decide) fl_8_5 tS g5 (fun _ => rfl) rfl ?_
  refine s_alen5 (pc' := 79) dX8_init_78 tP rfl ?_
  rw [show wl w63 26 = 6 by unfold wl; rw [lP]; rfl]
  refine s_icmp_ge (pc' := 82) (tgt := 104) dX8_init_79 rfl rfl (by decide) (by decide) (fun c => ?_) (fun c => absurd c (by decide))
  refine s_aload_n (pc' := 105) (x := 1) dX8_init_104 rfl rfl ?_
  refine s_bipush (pc' := 107) dX8_init_105 (by decide) rfl ?_
  refine t_newz (d := 39) (L := 6) (k := 25) (n := 4886) (pc' := 109) dX8_init_107 rfl (by decide) rfl (Eq.trans (congrArg (fun z : Int => z + 1) cW) rfl) (fun w67 h67 n68 => ?_)
  replace V := V w67 h67 n68
  have tS : wt w67 1 = 18 := (n68.2.2.2.2.2.1 1 (by decide)).trans tS
  have tP : wt w67 26 = 5 := (n68.2.2.2.2.2.1 26 (by decide)).trans tP
  have lP : wn w67 26 = 6 := (n68.2.2.2.2.2.2.1 26 (by decide)).trans lP
  have cW := n68.1
  have g5 : wf w67 1 5 = 26 := (n68.2.2.2.2.2.2.2.1 1 5 (by decide)).trans g5
  refine t_putF (pc' := 112) (j := 6) (kc := 8) (i := 6) dX8_init_109 clX8 (by decide) fl_8_6 rfl rfl rfl tS (fun E => nar_ref E _ _ rfl) (fun _ _ => rfl) rfl rfl (fun w69 f70 => ?_)
  replace V := V w69 f70
  have tS : wt w69 1 = 18 := (f70.2.1 1).trans tS
  have tP : wt w69 26 = 5 := (f70.2.1 26).trans tP
  have lP : wn w69 26 = 6 := (f70.2.2.1 26).trans lP
  have cW : (w69.1 : Int) = 39 := (congrArg (fun z : Nat => (z : Int)) f70.1).trans cW
  refine s_aload_n (pc' := 113) (x := 1) dX8_init_112 rfl rfl ?_
  refine t_new (d := 40) (k := 24) (n := 4883) (pc' := 116) dX8_init_113 clX2 ck_8_53 cn_2 ci_2 fdX2 rfl (Eq.trans (congrArg (fun z : Int => z + 1) cW) rfl) (fun w71 h71 n72 => ?_)
  replace V := V w71 h71 n72
  have tS : wt w71 1 = 18 := (n72.2.2.2.2.2.1 1 (by decide)).trans tS
  have tP : wt w71 26 = 5 := (n72.2.2.2.2.2.1 26 (by decide)).trans tP
  have lP : wn w71 26 = 6 := (n72.2.2.2.2.2.2.1 26 (by decide)).trans lP
  have cW := n72.1
  refine s_dup (pc' := 117) dX8_init_116 (fun x q => by cases q) rfl ?_
  refine s_callIN (host := RX8) (N := mX2_init) (k1 := 3) (n1 := 906) (av := []) (a := 40) (sk := [vR 40, vR 1]) (pc' := 120) dX8_init_117 (by decide) okX2_init onX2_init rfl rfl (by decide) (by decide) rfl (Nat.le_of_ble_eq_true rfl) (Nat.le_of_ble_eq_true rfl) (Nat.le_of_ble_eq_true rfl) rfl ((c_X2_init n72.1 (by decide) n72.2.1 n72.2.2.2.2.1).mono ?_)
  rintro r w73 h73 ⟨rfl, p74⟩
  show XA mX8_init 120 [some (vR 1), some (vI 6)] [vR 40, vR 1] w73 h73 21 3977 Q
  replace V := V w73 h73 p74
  have tS : wt w73 1 = 18 := (p74.1.2.1 1 (by decide)).trans tS
  have tP : wt w73 26 = 5 := (p74.1.2.1 26 (by decide)).trans tP
  have lP : wn w73 26 = 6 := (p74.1.2.2.1 26 (by decide)).trans lP
  have cW := p74.1.1
  refine t_putF (pc' := 123) (j := 7) (kc := 8) (i := 7) dX8_init_120 clX8 (by decide) fl_8_7 rfl rfl rfl tS (fun E => nar_ref E _ _ rfl) (fun _ _ => rfl) rfl rfl (fun w75 f76 => ?_)
  replace V := V w75 f76
  have tS : wt w75 1 = 18 := (f76.2.1 1).trans tS
  have tP : wt w75 26 = 5 := (f76.2.1 26).trans tP
  have lP : wn w75 26 = 6 := (f76.2.2.1 26).trans lP
  have cW : (w75.1 : Int) = 43 := (congrArg (fun z : Nat => (z : Int)) f76.1).trans cW
  refine s_aload_n (pc' := 124) (x := 1) dX8_init_123 rfl rfl ?_
  refine t_new (d := 44) (k := 20) (n := 3966) (pc' := 127) dX8_init_124 clX1 ck_8_60 cn_1 ci_1 fdX1 rfl (Eq.trans (congrArg (fun z : Int => z + 1) cW) rfl) (fun w77 h77 n78 => ?_)
  replace V := V w77 h77 n78
  have tS : wt w77 1 = 18 := (n78.2.2.2.2.2.1 1 (by decide)).trans tS
  have tP : wt w77 26 = 5 := (n78.2.2.2.2.2.1 26 (by decide)).trans tP
  have lP : wn w77 26 = 6 := (n78.2.2.2.2.2.2.1 26 (by decide)).trans lP
  have cW := n78.1
  refine s_dup (pc' := 128) dX8_init_127 (fun x q => by cases q) rfl ?_
  refine s_callIN (host := RX8) (N := mX1_init) (k1 := 7) (n1 := 1507) (av := []) (a := 44) (sk := [vR 44, vR 1]) (pc' := 131) dX8_init_128 (by decide) okX1_init onX1_init rfl rfl (by decide) (by decide) rfl (Nat.le_of_ble_eq_true rfl) (Nat.le_of_ble_eq_true rfl) (Nat.le_of_ble_eq_true rfl) rfl ((c_X1_init n78.1 (by decide) n78.2.1 n78.2.2.2.2.1).mono ?_)
  rintro r w79 h79 ⟨rfl, p80⟩
  show XA mX8_init 131 [some (vR 1), some (vI 6)] [vR 44, vR 1] w79 h79 13 2459 Q
  replace V := V w79 h79 p80
  have tS : wt w79 1 = 18 := (p80.1.2.1 1 (by decide)).trans tS
  have tP : wt w79 26 = 5 := (p80.1.2.1 26 (by decide)).trans tP
  have lP : wn w79 26 = 6 := (p80.1.2.2.1 26 (by decide)).trans lP
  have cW := p80.1.1
  refine t_putF (pc' := 134) (j := 8) (kc := 8) (i := 8) dX8_init_131 clX8 (by decide) fl_8_8 rfl rfl rfl tS (fun E => nar_ref E _ _ rfl) (fun _ _ => rfl) rfl rfl (fun w81 f82 => ?_)
  replace V := V w81 f82
  have tS : wt w81 1 = 18 := (f82.2.1 1).trans tS
  have tP : wt w81 26 = 5 := (f82.2.1 26).trans tP
  have lP : wn w81 26 = 6 := (f82.2.2.1 26).trans lP
  have cW : (w81.1 : Int) = 51 := (congrArg (fun z : Nat => (z : Int)) f82.1).trans cW
  refine s_aload_n (pc' := 135) (x := 1) dX8_init_134 rfl rfl ?_
  refine t_new (d := 52) (k := 12) (n := 2453) (pc' := 138) dX8_init_135 clX4 ck_8_67 cn_4 ci_4 fdX4 rfl (Eq.trans (congrArg (fun z : Int => z + 1) cW) rfl) (fun w83 h83 n84 => ?_)
  replace V := V w83 h83 n84
  have tS : wt w83 1 = 18 := (n84.2.2.2.2.2.1 1 (by decide)).trans tS
  have tP : wt w83 26 = 5 := (n84.2.2.2.2.2.1 26 (by decide)).trans tP
  have lP : wn w83 26 = 6 := (n84.2.2.2.2.2.2.1 26 (by decide)).trans lP
  have cW := n84.1
  refine s_dup (pc' := 139) dX8_init_138 (fun x q => by cases q) rfl ?_
  refine s_callIN (host := RX8) (N := mX4_init) (k1 := 2) (n1 := 720) (av := []) (a := 52) (sk := [vR 52, vR 1]) (pc' := 142) dX8_init_139 (by decide) okX4_init onX4_init rfl rfl (by decide) (by decide) rfl (Nat.le_of_ble_eq_true rfl) (Nat.le_of_ble_eq_true rfl) (Nat.le_of_ble_eq_true rfl) rfl ((c_X4_init n84.1 (by decide) n84.2.1 n84.2.2.2.2.1).mono ?_)
  rintro r w85 h85 ⟨rfl, p86⟩
  show XA mX8_init 142 [some (vR 1), some (vI 6)] [vR 52, vR 1] w85 h85 10 1733 Q
  replace V := V w85 h85 p86
  have tS : wt w85 1 = 18 := (p86.1.2.1 1 (by decide)).trans tS
  have tP : wt w85 26 = 5 := (p86.1.2.1 26 (by decide)).trans tP
  have lP : wn w85 26 = 6 := (p86.1.2.2.1 26 (by decide)).trans lP
  have cW := p86.1.1
  refine t_putF (pc' := 145) (j := 9) (kc := 8) (i := 9) dX8_init_142 clX8 (by decide) fl_8_9 rfl rfl rfl tS (fun E => nar_ref E _ _ rfl) (fun _ _ => rfl) rfl rfl (fun w87 f88 => ?_)
  replace V := V w87 f88
  have tS : wt w87 1 = 18 := (f88.2.1 1).trans tS
  have tP : wt w87 26 = 5 := (f88.2.1 26).trans tP
  have lP : wn w87 26 = 6 := (f88.2.2.1 26).trans lP
  have cW : (w87.1 : Int) = 54 := (congrArg (fun z : Nat => (z : Int)) f88.1).trans cW
  refine s_aload_n (pc' := 146) (x := 1) dX8_init_145 rfl rfl ?_
  refine t_new (d := 55) (k := 9) (n := 1728) (pc' := 149) dX8_init_146 clX0 ck_8_33 cn_0 ci_0 fdX0 rfl (Eq.trans (congrArg (fun z : Int => z + 1) cW) rfl) (fun w89 h89 n90 => ?_)
  replace V := V w89 h89 n90
  have tS : wt w89 1 = 18 := (n90.2.2.2.2.2.1 1 (by decide)).trans tS
  have tP : wt w89 26 = 5 := (n90.2.2.2.2.2.1 26 (by decide)).trans tP
  have lP : wn w89 26 = 6 := (n90.2.2.2.2.2.2.1 26 (by decide)).trans lP
  have cW := n90.1
  refine s_dup (pc' := 150) dX8_init_149 (fun x q => by cases q) rfl ?_
  refine s_sipush (pc' := 153) dX8_init_150 (by decide) rfl ?_
  refine s_callI (N := mX0_init) (k1 := 4) (n1 := 0 + 200 + 200 + 200 + 200) (av := [vI 200]) (a := 55) (sk := [vR 55, vR 1]) (pc' := 156) dX8_init_153 ml_8_35 okX0_init onX0_init rfl rfl (by decide) (by decide) rfl (Nat.le_of_ble_eq_true rfl) (Nat.le_of_ble_eq_true rfl) (Nat.le_of_ble_eq_true rfl) rfl ((c_X0_init (L := 200) n90.1 (by decide) n90.2.1 n90.2.2.2.2.1 (by decide) (by decide)).mono ?_)
  rintro r w91 h91 ⟨rfl, p92⟩
  show XA mX8_init 156 [some (vR 1), some (vI 6)] [vR 55, vR 1] w91 h91 5 928 Q
  replace V := V w91 h91 p92
  have tS : wt w91 1 = 18 := (p92.1.2.1 1 (by decide)).trans tS
  have tP : wt w91 26 = 5 := (p92.1.2.1 26 (by decide)).trans tP
  have lP : wn w91 26 = 6 := (p92.1.2.2.1 26 (by decide)).trans lP
  have cW := p92.1.1
  refine t_putF (pc' := 159) (j := 11) (kc := 8) (i := 11) dX8_init_156 clX8 (by decide) fl_8_11 rfl rfl rfl tS (fun E => nar_ref E _ _ rfl) (fun _ _ => rfl) rfl rfl (fun w93 f94 => ?_)
  replace V := V w93 f94
  have tS : wt w93 1 = 18 := (f94.2.1 1).trans tS
  have tP : wt w93 26 = 5 := (f94.2.1 26).trans tP
  have lP : wn w93 26 = 6 := (f94.2.2.1 26).trans lP
  have cW : (w93.1 : Int) = 59 := (congrArg (fun z : Nat => (z : Int)) f94.1).trans cW
  refine s_aload_n (pc' := 160) (x := 1) dX8_init_159 rfl rfl ?_
  refine t_new (d := 60) (k := 4) (n := 926) (pc' := 163) dX8_init_160 clX7 ck_8_42 cn_7 ci_7 fdX7 rfl (Eq.trans (congrArg (fun z : Int => z + 1) cW) rfl) (fun w95 h95 n96 => ?_)
  replace V := V w95 h95 n96
  have tS : wt w95 1 = 18 := (n96.2.2.2.2.2.1 1 (by decide)).trans tS
  have tP : wt w95 26 = 5 := (n96.2.2.2.2.2.1 26 (by decide)).trans tP
  have lP : wn w95 26 = 6 := (n96.2.2.2.2.2.2.1 26 (by decide)).trans lP
  have cW := n96.1
  refine s_dup (pc' := 164) dX8_init_163 (fun x q => by cases q) rfl ?_
  refine s_sipush (pc' := 167) dX8_init_164 (by decide) rfl ?_
  refine s_callI (N := mX7_init) (k1 := 1) (n1 := 0 + 200) (av := [vI 200]) (a := 60) (sk := [vR 60, vR 1]) (pc' := 170) dX8_init_167 ml_8_48 okX7_init onX7_init rfl rfl (by decide) (by decide) rfl (Nat.le_of_ble_eq_true rfl) (Nat.le_of_ble_eq_true rfl) (Nat.le_of_ble_eq_true rfl) rfl ((c_X7_init (L := 200) n96.1 (by decide) n96.2.1 n96.2.2.2.2.1 (by decide) (by decide)).mono ?_)
  rintro r w97 h97 ⟨rfl, p98⟩
  show XA mX8_init 170 [some (vR 1), some (vI 6)] [vR 60, vR 1] w97 h97 3 726 Q
  replace V := V w97 h97 p98
  have tS : wt w97 1 = 18 := (p98.1.2.1 1 (by decide)).trans tS
  have tP : wt w97 26 = 5 := (p98.1.2.1 26 (by decide)).trans tP
  have lP : wn w97 26 = 6 := (p98.1.2.2.1 26 (by decide)).trans lP
  have cW := p98.1.1
  have tX := p98.2.1.1
  refine t_putF (pc' := 173) (j := 12) (kc := 8) (i := 12) dX8_init_170 clX8 (by decide) fl_8_12 rfl rfl rfl tS (fun E => nar_ref E _ _ rfl) (fun _ _ => rfl) rfl rfl (fun w99 f100 => ?_)
  replace V := V w99 f100
  have tS : wt w99 1 = 18 := (f100.2.1 1).trans tS
  have tP : wt w99 26 = 5 := (f100.2.1 26).trans tP
  have lP : wn w99 26 = 6 := (f100.2.2.1 26).trans lP
  have cW : (w99.1 : Int) = 61 := (congrArg (fun z : Nat => (z : Int)) f100.1).trans cW
  refine s_aload_n (pc' := 174) (x := 1) dX8_init_173 rfl rfl ?_
  refine t_new (d := 62) (k := 2) (n := 720) (pc' := 177) dX8_init_174 clX4 ck_8_67 cn_4 ci_4 fdX4 rfl (Eq.trans (congrArg (fun z : Int => z + 1) cW) rfl) (fun w101 h101 n102 => ?_)
  replace V := V w101 h101 n102
  have tS : wt w101 1 = 18 := (n102.2.2.2.2.2.1 1 (by decide)).trans tS
  have tP : wt w101 26 = 5 := (n102.2.2.2.2.2.1 26 (by decide)).trans tP
  have lP : wn w101 26 = 6 := (n102.2.2.2.2.2.2.1 26 (by decide)).trans lP
  have cW := n102.1
  refine s_dup (pc' := 178) dX8_init_177 (fun x q => by cases q) rfl ?_
  refine s_callIN (host := RX8) (N := mX4_init) (k1 := 2) (n1 := 720) (av := []) (a := 62) (sk := [vR 62, vR 1]) (pc' := 181) dX8_init_178 (by decide) okX4_init onX4_init rfl rfl (by decide) (by decide) rfl (Nat.le_of_ble_eq_true rfl) (Nat.le_of_ble_eq_true rfl) (Nat.le_of_ble_eq_true rfl) rfl ((c_X4_init n102.1 (by decide) n102.2.1 n102.2.2.2.2.1).mono ?_)
  rintro r w103 h103 ⟨rfl, p104⟩
  show XA mX8_init 181 [some (vR 1), some (vI 6)] [vR 62, vR 1] w103 h103 0 0 Q
  replace V := V w103 h103 p104
  have tS : wt w103 1 = 18 := (p104.1.2.1 1 (by decide)).trans tS
  have tP : wt w103 26 = 5 := (p104.1.2.1 26 (by decide)).trans tP
  have lP : wn w103 26 = 6 := (p104.1.2.2.1 26 (by decide)).trans lP
  have cW := p104.1.1
  refine t_putF (pc' := 184) (j := 13) (kc := 8) (i := 13) dX8_init_181 clX8 (by decide) fl_8_13 rfl rfl rfl tS (fun E => nar_ref E _ _ rfl) (fun _ _ => rfl) rfl rfl (fun w105 f106 => ?_)
  replace V := V w105 f106
  have tS : wt w105 1 = 18 := (f106.2.1 1).trans tS
  have tP : wt w105 26 = 5 := (f106.2.1 26).trans tP
  have lP : wn w105 26 = 6 := (f106.2.2.1 26).trans lP
  have cW : (w105.1 : Int) = 64 := (congrArg (fun z : Nat => (z : Int)) f106.1).trans cW
  exact s_vret dX8_init_184 rfl V
set_option maxRecDepth 20000 in
theorem r_X9_init {w : WS} {h : AH} {Q : Option AV → WS → AH → Prop} (hw : (w.1 : Int) = 65) (tS : wt w 65 = 19) (V : ∀ w1 h1, nw w h w1 h1 66 1 202 → ∀ w3, fn w1 w3 65 0 66 → ∀ w5 h5, nw w3 h1 w5 h5 67 1 600 → ∀ w7, fn w5 w7 65 1 67 → ∀ w9 h9, nw w7 h5 w9 h9 68 4 16 → ∀ w11, fn w9 w11 65 2 68 → ∀ h13, sn h9 h13 65 5 (-1) → ∀ w15 h15, nw w11 h13 w15 h15 69 1 300 → ∀ w17, fn w15 w17 65 6 69 → ∀ w19 h19, nw w17 h15 w19 h19 70 1 300 → ∀ w21, fn w19 w21 65 7 70 → ∀ w23 h23, nw w21 h19 w23 h23 71 1 300 → ∀ w25, fn w23 w25 65 8 71 → ∀ w27 h27, nw w25 h23 w27 h27 72 1 300 → ∀ w29, fn w27 w29 65 9 72 → ∀ w31 h31, nw w29 h27 w31 h31 73 1 302 → ∀ w33, fn w31 w33 65 11 73 → ∀ w35 h35, nw w33 h31 w35 h35 74 4 302 → ∀ w37, fn w35 w37 65 13 74 → ∀ w39 h39, nw w37 h35 w39 h39 75 1 302 → ∀ w41, fn w39 w41 65 14 75 → ∀ w43 h43, nw w41 h39 w43 h43 76 1 302 → ∀ w45, fn w43 w45 65 15 76 → ∀ w47 h47, nw w45 h43 w47 h47 77 1 300 → ∀ w49, fn w47 w49 65 16 77 → ∀ w51 h51, nw w49 h47 w51 h51 78 1 300 → ∀ w53, fn w51 w53 65 17 78 → ∀ w55 h55, nw w53 h51 w55 h55 79 1 300 → ∀ w57, fn w55 w57 65 18 79 → ∀ w59 h59, nw w57 h55 w59 h59 80 1 300 → ∀ w61, fn w59 w61 65 19 80 → ∀ w63 h63, nw w61 h59 w63 h63 81 1 400 → ∀ w65, fn w63 w65 65 28 81 → ∀ w67 h67, nw w65 h63 w67 h67 82 1 400 → ∀ w69, fn w67 w69 65 29 82 → CV mX9_firsts [vR 65, vI 0] w69 h67 (fun h71 => CV mX9_begins [vR 65] w69 h71 (fun h72 => Q none w69 h72))) : CA mX9_init [vR 65] w h 17 (5226) Q := by
  refine CA.of (M := mX9_init) (by decide) rfl (Nat.le_of_ble_eq_true rfl) ?_
  show XA mX9_init 0 [some (vR 65)] [] w h 17 (5226) Q
  have cW := hw
  refine s_aload_n (pc' := 1) (x := 65) dX9_init_0 rfl rfl ?_
  refine s_obj (pc' := 4) dX9_init_1 ml_9_1 oin oic (by decide) (by decide) (Nat.le_of_ble_eq_true rfl) rfl ?_
  refine s_aload_n (pc' := 5) (x := 65) dX9_init_4 rfl rfl ?_
  refine s_sipush (pc' := 8) dX9_init_5 (by decide) rfl ?_
  refine t_newi (d := 66) (L := 202) (k := 16) (n := 5024) (pc' := 10) dX9_init_8 rfl (by decide) rfl (Eq.trans (congrArg (fun z : Int => z + 1) cW) rfl) (fun w1 h1 n2 => ?_)
  replace V := V w1 h1 n2
  have tS : wt w1 65 = 19 := (n2.2.2.2.2.2.1 65 (by decide)).trans tS
  have cW := n2.1
  refine t_putF (pc' := 13) (j := 0) (kc := 9) (i := 0) dX9_init_10 clX9 (by decide) fl_9_0 rfl rfl rfl tS (fun E => nar_ref E _ _ rfl) (fun _ _ => rfl) rfl rfl (fun w3 f4 => ?_)
  replace V := V w3 f4
  have tS : wt w3 65 = 19 := (f4.2.1 65).trans tS
  have cW : (w3.1 : Int) = 66 := (congrArg (fun z : Nat => (z : Int)) f4.1).trans cW
  refine s_aload_n (pc' := 14) (x := 65) dX9_init_13 rfl rfl ?_
  refine s_sipush (pc' := 17) dX9_init_14 (by decide) rfl ?_
  refine t_newi (d := 67) (L := 600) (k := 15) (n := 4424) (pc' := 19) dX9_init_17 rfl (by decide) rfl (Eq.trans (congrArg (fun z : Int => z + 1) cW) rfl) (fun w5 h5 n6 => ?_)
  replace V := V w5 h5 n6
  have tS : wt w5 65 = 19 := (n6.2.2.2.2.2.1 65 (by decide)).trans tS
  have cW := n6.1
  refine t_putF (pc' := 22) (j := 1) (kc := 9) (i := 1) dX9_init_19 clX9 (by decide) fl_9_1 rfl rfl rfl tS (fun E => nar_ref E _ _ rfl) (fun _ _ => rfl) rfl rfl (fun w7 f8 => ?_)
  replace V := V w7 f8
  have tS : wt w7 65 = 19 := (f8.2.1 65).trans tS
  have cW : (w7.1 : Int) = 67 := (congrArg (fun z : Nat => (z : Int)) f8.1).trans cW
  refine s_aload_n (pc' := 23) (x := 65) dX9_init_22 rfl rfl ?_
  refine s_bipush (pc' := 25) dX9_init_23 (by decide) rfl ?_
  refine t_newl (d := 68) (L := 16) (k := 14) (n := 4408) (pc' := 27) dX9_init_25 rfl (by decide) rfl (Eq.trans (congrArg (fun z : Int => z + 1) cW) rfl) (fun w9 h9 n10 => ?_)
  replace V := V w9 h9 n10
  have tS : wt w9 65 = 19 := (n10.2.2.2.2.2.1 65 (by decide)).trans tS
  have cW := n10.1
  refine t_putF (pc' := 30) (j := 2) (kc := 9) (i := 2) dX9_init_27 clX9 (by decide) fl_9_2 rfl rfl rfl tS (fun E => nar_ref E _ _ rfl) (fun _ _ => rfl) rfl rfl (fun w11 f12 => ?_)
  replace V := V w11 f12
  have tS : wt w11 65 = 19 := (f12.2.1 65).trans tS
  have cW : (w11.1 : Int) = 68 := (congrArg (fun z : Nat => (z : Int)) f12.1).trans cW
  refine s_aload_n (pc' := 31) (x := 65) dX9_init_30 rfl rfl ?_
  refine s_iconst (pc' := 32) dX9_init_31 rfl ?_
  refine s_put (pc' := 35) (v := vI (-1)) (x := (-1)) (kc := 9) (i := 5) dX9_init_32 clX9 (by decide) fl_9_5 rfl tS (fun E => nar_int E _) (fun _ _ => rfl) (j0 := 5) rfl rfl ?_
  have s14 := sn_st h9 65 5 (-1)
  revert s14
  generalize st h9 65 5 (-1) = h13
  intro s14
  replace V := V h13 s14
  refine s_aload_n (pc' := 36) (x := 65) dX9_init_35 rfl rfl ?_
  refine s_sipush (pc' := 39) dX9_init_36 (by decide) rfl ?_
  refine t_newi (d := 69) (L := 300) (k := 13) (n := 4108) (pc' := 41) dX9_init_39 rfl (by decide) rfl (Eq.trans (congrArg (fun z : Int => z + 1) cW) rfl) (fun w15 h15 n16 => ?_)
  replace V := V w15 h15 n16
  have tS : wt w15 65 = 19 := (n16.2.2.2.2.2.1 65 (by decide)).trans tS
  have cW := n16.1
  refine t_putF (pc' := 44) (j := 6) (kc := 9) (i := 6) dX9_init_41 clX9 (by decide) fl_9_6 rfl rfl rfl tS (fun E => nar_ref E _ _ rfl) (fun _ _ => rfl) rfl rfl (fun w17 f18 => ?_)
  replace V := V w17 f18
  have tS : wt w17 65 = 19 := (f18.2.1 65).trans tS
  have cW : (w17.1 : Int) = 69 := (congrArg (fun z : Nat => (z : Int)) f18.1).trans cW
  refine s_aload_n (pc' := 45) (x := 65) dX9_init_44 rfl rfl ?_
  refine s_sipush (pc' := 48) dX9_init_45 (by decide) rfl ?_
  refine t_newi (d := 70) (L := 300) (k := 12) (n := 3808) (pc' := 50) dX9_init_48 rfl (by decide) rfl (Eq.trans (congrArg (fun z : Int => z + 1) cW) rfl) (fun w19 h19 n20 => ?_)
  replace V := V w19 h19 n20
  have tS : wt w19 65 = 19 := (n20.2.2.2.2.2.1 65 (by decide)).trans tS
  have cW := n20.1
  refine t_putF (pc' := 53) (j := 7) (kc := 9) (i := 7) dX9_init_50 clX9 (by decide) fl_9_7 rfl rfl rfl tS (fun E => nar_ref E _ _ rfl) (fun _ _ => rfl) rfl rfl (fun w21 f22 => ?_)
  replace V := V w21 f22
  have tS : wt w21 65 = 19 := (f22.2.1 65).trans tS
  have cW : (w21.1 : Int) = 70 := (congrArg (fun z : Nat => (z : Int)) f22.1).trans cW
  refine s_aload_n (pc' := 54) (x := 65) dX9_init_53 rfl rfl ?_
  refine s_sipush (pc' := 57) dX9_init_54 (by decide) rfl ?_
  refine t_newi (d := 71) (L := 300) (k := 11) (n := 3508) (pc' := 59) dX9_init_57 rfl (by decide) rfl (Eq.trans (congrArg (fun z : Int => z + 1) cW) rfl) (fun w23 h23 n24 => ?_)
  replace V := V w23 h23 n24
  have tS : wt w23 65 = 19 := (n24.2.2.2.2.2.1 65 (by decide)).trans tS
  have cW := n24.1
  refine t_putF (pc' := 62) (j := 8) (kc := 9) (i := 8) dX9_init_59 clX9 (by decide) fl_9_8 rfl rfl rfl tS (fun E => nar_ref E _ _ rfl) (fun _ _ => rfl) rfl rfl (fun w25 f26 => ?_)
  replace V := V w25 f26
  have tS : wt w25 65 = 19 := (f26.2.1 65).trans tS
  have cW : (w25.1 : Int) = 71 := (congrArg (fun z : Nat => (z : Int)) f26.1).trans cW
  refine s_aload_n (pc' := 63) (x := 65) dX9_init_62 rfl rfl ?_
  refine s_sipush (pc' := 66) dX9_init_63 (by decide) rfl ?_
  refine t_newi (d := 72) (L := 300) (k := 10) (n := 3208) (pc' := 68) dX9_init_66 rfl (by decide) rfl (Eq.trans (congrArg (fun z : Int => z + 1) cW) rfl) (fun w27 h27 n28 => ?_)
  replace V := V w27 h27 n28
  have tS : wt w27 65 = 19 := (n28.2.2.2.2.2.1 65 (by decide)).trans tS
  have cW := n28.1
  refine t_putF (pc' := 71) (j := 9) (kc := 9) (i := 9) dX9_init_68 clX9 (by decide) fl_9_9 rfl rfl rfl tS (fun E => nar_ref E _ _ rfl) (fun _ _ => rfl) rfl rfl (fun w29 f30 => ?_)
  replace V := V w29 f30
  have tS : wt w29 65 = 19 := (f30.2.1 65).trans tS
  have cW : (w29.1 : Int) = 72 := (congrArg (fun z : Nat => (z : Int)) f30.1).trans cW
  refine s_aload_n (pc' := 72) (x := 65) dX9_init_71 rfl rfl ?_
  refine s_sipush (pc' := 75) dX9_init_72 (by decide) rfl ?_
  refine t_newi (d := 73) (L := 302) (k := 9) (n := 2906) (pc' := 77) dX9_init_75 rfl (by decide) rfl (Eq.trans (congrArg (fun z : Int => z + 1) cW) rfl) (fun w31 h31 n32 => ?_)
  replace V := V w31 h31 n32
  have tS : wt w31 65 = 19 := (n32.2.2.2.2.2.1 65 (by decide)).trans tS
  have cW := n32.1
  refine t_putF (pc' := 80) (j := 11) (kc := 9) (i := 11) dX9_init_77 clX9 (by decide) fl_9_11 rfl rfl rfl tS (fun E => nar_ref E _ _ rfl) (fun _ _ => rfl) rfl rfl (fun w33 f34 => ?_)
  replace V := V w33 f34
  have tS : wt w33 65 = 19 := (f34.2.1 65).trans tS
  have cW : (w33.1 : Int) = 73 := (congrArg (fun z : Nat => (z : Int)) f34.1).trans cW
  refine s_aload_n (pc' := 81) (x := 65) dX9_init_80 rfl rfl ?_
  refine s_sipush (pc' := 84) dX9_init_81 (by decide) rfl ?_
  refine t_newl (d := 74) (L := 302) (k := 8) (n := 2604) (pc' := 86) dX9_init_84 rfl (by decide) rfl (Eq.trans (congrArg (fun z : Int => z + 1) cW) rfl) (fun w35 h35 n36 => ?_)
  replace V := V w35 h35 n36
  have tS : wt w35 65 = 19 := (n36.2.2.2.2.2.1 65 (by decide)).trans tS
  have cW := n36.1
  refine t_putF (pc' := 89) (j := 13) (kc := 9) (i := 13) dX9_init_86 clX9 (by decide) fl_9_13 rfl rfl rfl tS (fun E => nar_ref E _ _ rfl) (fun _ _ => rfl) rfl rfl (fun w37 f38 => ?_)
  replace V := V w37 f38
  have tS : wt w37 65 = 19 := (f38.2.1 65).trans tS
  have cW : (w37.1 : Int) = 74 := (congrArg (fun z : Nat => (z : Int)) f38.1).trans cW
  refine s_aload_n (pc' := 90) (x := 65) dX9_init_89 rfl rfl ?_
  refine s_sipush (pc' := 93) dX9_init_90 (by decide) rfl ?_
  refine t_newi (d := 75) (L := 302) (k := 7) (n := 2302) (pc' := 95) dX9_init_93 rfl (by decide) rfl (Eq.trans (congrArg (fun z : Int => z + 1) cW) rfl) (fun w39 h39 n40 => ?_)
  replace V := V w39 h39 n40
  have tS : wt w39 65 = 19 := (n40.2.2.2.2.2.1 65 (by decide)).trans tS
  have cW := n40.1
  refine t_putF (pc' := 98) (j := 14) (kc := 9) (i := 14) dX9_init_95 clX9 (by decide) fl_9_14 rfl rfl rfl tS (fun E => nar_ref E _ _ rfl) (fun _ _ => rfl) rfl rfl (fun w41 f42 => ?_)
  replace V := V w41 f42
  have tS : wt w41 65 = 19 := (f42.2.1 65).trans tS
  have cW : (w41.1 : Int) = 75 := (congrArg (fun z : Nat => (z : Int)) f42.1).trans cW
  refine s_aload_n (pc' := 99) (x := 65) dX9_init_98 rfl rfl ?_
  refine s_sipush (pc' := 102) dX9_init_99 (by decide) rfl ?_
  refine t_newi (d := 76) (L := 302) (k := 6) (n := 2000) (pc' := 104) dX9_init_102 rfl (by decide) rfl (Eq.trans (congrArg (fun z : Int => z + 1) cW) rfl) (fun w43 h43 n44 => ?_)
  replace V := V w43 h43 n44
  have tS : wt w43 65 = 19 := (n44.2.2.2.2.2.1 65 (by decide)).trans tS
  have cW := n44.1
  refine t_putF (pc' := 107) (j := 15) (kc := 9) (i := 15) dX9_init_104 clX9 (by decide) fl_9_15 rfl rfl rfl tS (fun E => nar_ref E _ _ rfl) (fun _ _ => rfl) rfl rfl (fun w45 f46 => ?_)
  replace V := V w45 f46
  have tS : wt w45 65 = 19 := (f46.2.1 65).trans tS
  have cW : (w45.1 : Int) = 76 := (congrArg (fun z : Nat => (z : Int)) f46.1).trans cW
  refine s_aload_n (pc' := 108) (x := 65) dX9_init_107 rfl rfl ?_
  refine s_sipush (pc' := 111) dX9_init_108 (by decide) rfl ?_
  refine t_newi (d := 77) (L := 300) (k := 5) (n := 1700) (pc' := 113) dX9_init_111 rfl (by decide) rfl (Eq.trans (congrArg (fun z : Int => z + 1) cW) rfl) (fun w47 h47 n48 => ?_)
  replace V := V w47 h47 n48
  have tS : wt w47 65 = 19 := (n48.2.2.2.2.2.1 65 (by decide)).trans tS
  have cW := n48.1
  refine t_putF (pc' := 116) (j := 16) (kc := 9) (i := 16) dX9_init_113 clX9 (by decide) fl_9_16 rfl rfl rfl tS (fun E => nar_ref E _ _ rfl) (fun _ _ => rfl) rfl rfl (fun w49 f50 => ?_)
  replace V := V w49 f50
  have tS : wt w49 65 = 19 := (f50.2.1 65).trans tS
  have cW : (w49.1 : Int) = 77 := (congrArg (fun z : Nat => (z : Int)) f50.1).trans cW
  refine s_aload_n (pc' := 117) (x := 65) dX9_init_116 rfl rfl ?_
  refine s_sipush (pc' := 120) dX9_init_117 (by decide) rfl ?_
  refine t_newi (d := 78) (L := 300) (k := 4) (n := 1400) (pc' := 122) dX9_init_120 rfl (by decide) rfl (Eq.trans (congrArg (fun z : Int => z + 1) cW) rfl) (fun w51 h51 n52 => ?_)
  replace V := V w51 h51 n52
  have tS : wt w51 65 = 19 := (n52.2.2.2.2.2.1 65 (by decide)).trans tS
  have cW := n52.1
  refine t_putF (pc' := 125) (j := 17) (kc := 9) (i := 17) dX9_init_122 clX9 (by decide) fl_9_17 rfl rfl rfl tS (fun E => nar_ref E _ _ rfl) (fun _ _ => rfl) rfl rfl (fun w53 f54 => ?_)
  replace V := V w53 f54
  have tS : wt w53 65 = 19 := (f54.2.1 65).trans tS
  have cW : (w53.1 : Int) = 78 := (congrArg (fun z : Nat => (z : Int)) f54.1).trans cW
  refine s_aload_n (pc' := 126) (x := 65) dX9_init_125 rfl rfl ?_
  refine s_sipush (pc' := 129) dX9_init_126 (by decide) rfl ?_
  refine t_newi (d := 79) (L := 300) (k := 3) (n := 1100) (pc' := 131) dX9_init_129 rfl (by decide) rfl (Eq.trans (congrArg (fun z : Int => z + 1) cW) rfl) (fun w55 h55 n56 => ?_)
  replace V := V w55 h55 n56
  have tS : wt w55 65 = 19 := (n56.2.2.2.2.2.1 65 (by decide)).trans tS
  have cW := n56.1
  refine t_putF (pc' := 134) (j := 18) (kc := 9) (i := 18) dX9_init_131 clX9 (by decide) fl_9_18 rfl rfl rfl tS (fun E => nar_ref E _ _ rfl) (fun _ _ => rfl) rfl rfl (fun w57 f58 => ?_)
  replace V := V w57 f58
  have tS : wt w57 65 = 19 := (f58.2.1 65).trans tS
  have cW : (w57.1 : Int) = 79 := (congrArg (fun z : Nat => (z : Int)) f58.1).trans cW
  refine s_aload_n (pc' := 135) (x := 65) dX9_init_134 rfl rfl ?_
  refine s_sipush (pc' := 138) dX9_init_135 (by decide) rfl ?_
  refine t_newi (d := 80) (L := 300) (k := 2) (n := 800) (pc' := 140) dX9_init_138 rfl (by decide) rfl (Eq.trans (congrArg (fun z : Int => z + 1) cW) rfl) (fun w59 h59 n60 => ?_)
  replace V := V w59 h59 n60
  have tS : wt w59 65 = 19 := (n60.2.2.2.2.2.1 65 (by decide)).trans tS
  have cW := n60.1
  refine t_putF (pc' := 143) (j := 19) (kc := 9) (i := 19) dX9_init_140 clX9 (by decide) fl_9_19 rfl rfl rfl tS (fun E => nar_ref E _ _ rfl) (fun _ _ => rfl) rfl rfl (fun w61 f62 => ?_)
  replace V := V w61 f62
  have tS : wt w61 65 = 19 := (f62.2.1 65).trans tS
  have cW : (w61.1 : Int) = 80 := (congrArg (fun z : Nat => (z : Int)) f62.1).trans cW
  refine s_aload_n (pc' := 144) (x := 65) dX9_init_143 rfl rfl ?_
  refine s_sipush (pc' := 147) dX9_init_144 (by decide) rfl ?_
  refine t_newi (d := 81) (L := 400) (k := 1) (n := 400) (pc' := 149) dX9_init_147 rfl (by decide) rfl (Eq.trans (congrArg (fun z : Int => z + 1) cW) rfl) (fun w63 h63 n64 => ?_)
  replace V := V w63 h63 n64
  have tS : wt w63 65 = 19 := (n64.2.2.2.2.2.1 65 (by decide)).trans tS
  have cW := n64.1
  refine t_putF (pc' := 152) (j := 28) (kc := 9) (i := 28) dX9_init_149 clX9 (by decide) fl_9_28 rfl rfl rfl tS (fun E => nar_ref E _ _ rfl) (fun _ _ => rfl) rfl rfl (fun w65 f66 => ?_)
  replace V := V w65 f66
  have tS : wt w65 65 = 19 := (f66.2.1 65).trans tS
  have cW : (w65.1 : Int) = 81 := (congrArg (fun z : Nat => (z : Int)) f66.1).trans cW
  refine s_aload_n (pc' := 153) (x := 65) dX9_init_152 rfl rfl ?_
  refine s_sipush (pc' := 156) dX9_init_153 (by decide) rfl ?_
  refine t_newi (d := 82) (L := 400) (k := 0) (n := 0) (pc' := 158) dX9_init_156 rfl (by decide) rfl (Eq.trans (congrArg (fun z : Int => z + 1) cW) rfl) (fun w67 h67 n68 => ?_)
  replace V := V w67 h67 n68
  have tS : wt w67 65 = 19 := (n68.2.2.2.2.2.1 65 (by decide)).trans tS
  have cW := n68.1
  refine t_putF (pc' := 161) (j := 29) (kc := 9) (i := 29) dX9_init_158 clX9 (by decide) fl_9_29 rfl rfl rfl tS (fun E => nar_ref E _ _ rfl) (fun _ _ => rfl) rfl rfl (fun w69 f70 => ?_)
  replace V := V w69 f70
  have tS : wt w69 65 = 19 := (f70.2.1 65).trans tS
  have cW : (w69.1 : Int) = 82 := (congrArg (fun z : Nat => (z : Int)) f70.1).trans cW
  refine s_aload_n (pc' := 162) (x := 65) dX9_init_161 rfl rfl ?_
  refine s_iconst (pc' := 163) dX9_init_162 rfl ?_
  refine s_callV (pc' := 166) (av := [vI 0]) (a := 65) (sk := []) (kc := 9) dX9_init_163 ml_9_66 okX9_firsts oiX9_firsts (by decide) (NF := 39) rfl tS rfl (Nat.le_of_ble_eq_true rfl) (Nat.le_refl 0) (Nat.le_refl 0) rfl (CV.on V (fun h71 V => ?_))
  refine s_aload_n (pc' := 167) (x := 65) dX9_init_166 rfl rfl ?_
  refine s_callV (pc' := 170) (av := []) (a := 65) (sk := []) (kc := 9) dX9_init_167 ml_9_70 okX9_begins oiX9_begins (by decide) (NF := 39) rfl tS rfl (Nat.le_of_ble_eq_true rfl) (Nat.le_refl 0) (Nat.le_refl 0) rfl (CV.on V (fun h72 V => ?_))
  exact s_vret dX9_init_170 rfl V
