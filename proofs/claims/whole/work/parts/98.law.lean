abbrev mL_law (nm : String) : MI := (⟨RL, nm, "([I)Z"⟩, cL_law, 4, some .boolean, RL, 9)
theorem i32_same (x : Int) : inR (Int32.ofInt x).toInt ∧ Int32.ofInt (Int32.ofInt x).toInt = Int32.ofInt x := ⟨⟨Int32.minValue_le_toInt _, by have := Int32.toInt_lt (Int32.ofInt x); omega⟩, Int32.ofInt_toInt _⟩
theorem s_icmp_same {M : MI} {pc pc' : Nat} {ls : List (Option AV)} {sk : List AV} {w : WS} {h : AH} {k n : Nat} {Q : Option AV → WS → AH → Prop} {x y off : Int} {tgt : Nat} (hd : decode (mC M) pc = .ok (.if_icmp .eq off, 3)) (ht : (pc : Int) + off = (tgt : Int)) (hp : pc + 3 = pc') (e : x = y) (K : XA M tgt ls sk w h k n Q) : XA M pc ls (vI y :: vI x :: sk) w h k n Q := by
  subst e
  obtain ⟨i1, i2⟩ := i32_same x
  have K1 : XA M pc ls (vI (Int32.ofInt x).toInt :: vI (Int32.ofInt x).toInt :: sk) w h k n Q := s_icmp_eq hd ht hp i1 i1 (fun _ => K) (fun c => absurd rfl c)
  intro p l e s m args below meth c H locs cells slots mc ms E lsM C hk hn hR hL hls
  have := K1 p l e s m args below meth c H locs cells slots mc ms E lsM C hk hn hR hL hls
  have et : (vI (Int32.ofInt x).toInt :: vI (Int32.ofInt x).toInt :: sk).map (tr E) = (vI x :: vI x :: sk).map (tr E) := by
    simp only [List.map_cons, tr, i2]
  rw [et] at this
  exact this
set_option maxRecDepth 20000 in
theorem r_L_law_18 {w : WS} {h : AH} {Q : Int → AH → Prop} {a3 : Int} {nm : String} (sA : shA w) (V : (wt w (-1) = 6 ∧ (inR a3 ∧ inR ((wl w (-1)) - 6) ∧ ((((wl w (-1)) - 6) < a3 → Q 1 h) ∧ (¬ ((wl w (-1)) - 6) < a3 → (0 ≤ a3 ∧ a3 < wl w (-1) ∧ (inR (andZ (h (-1) a3) 31) ∧ (((andZ (h (-1) a3) 31) = 0 → (0 ≤ (a3 + 1) ∧ (a3 + 1) < wl w (-1) ∧ (0 ≤ (a3 + 2) ∧ (a3 + 2) < wl w (-1) ∧ (0 ≤ (a3 + 3) ∧ (a3 + 3) < wl w (-1) ∧ (0 ≤ (a3 + 4) ∧ (a3 + 4) < wl w (-1) ∧ (0 ≤ (a3 + 5) ∧ (a3 + 5) < wl w (-1) ∧ CI mX8_feed [vR 1, vI (h (-1) (a3 + 1)), vI (h (-1) (a3 + 2)), vI (h (-1) (a3 + 3)), vI (h (-1) (a3 + 4)), vI (h (-1) (a3 + 5))] w h (fun x18 h17 => CI mX9_feed [vR 65, vI (h17 (-1) (a3 + 1)), vI (h17 (-1) (a3 + 2)), vI (h17 (-1) (a3 + 3)), vI (h17 (-1) (a3 + 4)), vI (h17 (-1) (a3 + 5))] w h17 (fun x20 h19 => (x18 = x20 ∧ XI (mL_law nm) 18 [some (vR (-1)), some (vR 1), some (vR 65), some (vI (a3 + 6))] [] w h19 Q))))))))) ∧ ((andZ (h (-1) a3) 31) = 1 → (0 ≤ (a3 + 1) ∧ (a3 + 1) < wl w (-1) ∧ CI mX8_end [vR 1, vI (h (-1) (a3 + 1))] w h (fun x26 h25 => CI mX9_end [vR 65, vI (h25 (-1) (a3 + 1))] w h25 (fun x28 h27 => (x26 = x28 ∧ XI (mL_law nm) 18 [some (vR (-1)), some (vR 1), some (vR 65), some (vI (a3 + 6))] [] w h27 Q))))) ∧ ((andZ (h (-1) a3) 31) = 2 → CI mX8_text [vR 1] w h (fun x32 h31 => CI mX9_text [vR 65] w h31 (fun x34 h33 => (x32 = x34 ∧ XI (mL_law nm) 18 [some (vR (-1)), some (vR 1), some (vR 65), some (vI (a3 + 6))] [] w h33 Q)))) ∧ ((andZ (h (-1) a3) 31) = 3 → (0 ≤ (a3 + 1) ∧ (a3 + 1) < wl w (-1) ∧ CI mX8_fault [vR 1, vI (h (-1) (a3 + 1))] w h (fun x40 h39 => CI mX9_fault [vR 65, vI (h39 (-1) (a3 + 1))] w h39 (fun x42 h41 => (x40 = x42 ∧ XI (mL_law nm) 18 [some (vR (-1)), some (vR 1), some (vR 65), some (vI (a3 + 6))] [] w h41 Q))))) ∧ ((andZ (h (-1) a3) 31) = 4 → (0 ≤ (a3 + 1) ∧ (a3 + 1) < wl w (-1) ∧ CI mX8_count [vR 1, vI (h (-1) (a3 + 1))] w h (fun x48 h47 => CI mX9_count [vR 65, vI (h47 (-1) (a3 + 1))] w h47 (fun x50 h49 => (x48 = x50 ∧ XI (mL_law nm) 18 [some (vR (-1)), some (vR 1), some (vR 65), some (vI (a3 + 6))] [] w h49 Q))))) ∧ ((andZ (h (-1) a3) 31) = 5 → (0 ≤ (a3 + 1) ∧ (a3 + 1) < wl w (-1) ∧ (0 ≤ (a3 + 2) ∧ (a3 + 2) < wl w (-1) ∧ CI mX8_kind [vR 1, vI (h (-1) (a3 + 1)), vI (h (-1) (a3 + 2))] w h (fun x58 h57 => CI mX9_kind [vR 65, vI (h57 (-1) (a3 + 1)), vI (h57 (-1) (a3 + 2))] w h57 (fun x60 h59 => (x58 = x60 ∧ XI (mL_law nm) 18 [some (vR (-1)), some (vR 1), some (vR 65), some (vI (a3 + 6))] [] w h59 Q)))))) ∧ ((andZ (h (-1) a3) 31) = 6 → (0 ≤ (a3 + 1) ∧ (a3 + 1) < wl w (-1) ∧ (0 ≤ (a3 + 2) ∧ (a3 + 2) < wl w (-1) ∧ CI mX8_slacken [vR 1, vI (h (-1) (a3 + 1)), vI (h (-1) (a3 + 2))] w h (fun x68 h67 => CI mX9_slacken [vR 65, vI (h67 (-1) (a3 + 1)), vI (h67 (-1) (a3 + 2))] w h67 (fun x70 h69 => (x68 = x70 ∧ XI (mL_law nm) 18 [some (vR (-1)), some (vR 1), some (vR 65), some (vI (a3 + 6))] [] w h69 Q)))))) ∧ ((andZ (h (-1) a3) 31) = 7 → (0 ≤ (a3 + 1) ∧ (a3 + 1) < wl w (-1) ∧ (0 ≤ (a3 + 2) ∧ (a3 + 2) < wl w (-1) ∧ CI mX8_call [vR 1, vI (h (-1) (a3 + 1)), vI (h (-1) (a3 + 2))] w h (fun x78 h77 => CI mX9_call [vR 65, vI (h77 (-1) (a3 + 1)), vI (h77 (-1) (a3 + 2))] w h77 (fun x80 h79 => (x78 = x80 ∧ XI (mL_law nm) 18 [some (vR (-1)), some (vR 1), some (vR 65), some (vI (a3 + 6))] [] w h79 Q)))))) ∧ ((andZ (h (-1) a3) 31) = 8 → (0 ≤ (a3 + 1) ∧ (a3 + 1) < wl w (-1) ∧ CI mX8_wakes [vR 1, vI (h (-1) (a3 + 1))] w h (fun x86 h85 => CI mX9_wakes [vR 65, vI (h85 (-1) (a3 + 1))] w h85 (fun x88 h87 => (x86 = x88 ∧ XI (mL_law nm) 18 [some (vR (-1)), some (vR 1), some (vR 65), some (vI (a3 + 6))] [] w h87 Q))))) ∧ ((andZ (h (-1) a3) 31) = 9 → (0 ≤ (a3 + 1) ∧ (a3 + 1) < wl w (-1) ∧ (0 ≤ (a3 + 2) ∧ (a3 + 2) < wl w (-1) ∧ CI mX8_wake [vR 1, vI (h (-1) (a3 + 1)), vI (h (-1) (a3 + 2))] w h (fun x96 h95 => CI mX9_wake [vR 65, vI (h95 (-1) (a3 + 1)), vI (h95 (-1) (a3 + 2))] w h95 (fun x98 h97 => (x96 = x98 ∧ XI (mL_law nm) 18 [some (vR (-1)), some (vR 1), some (vR 65), some (vI (a3 + 6))] [] w h97 Q)))))) ∧ ((andZ (h (-1) a3) 31) = 10 → (0 ≤ (a3 + 1) ∧ (a3 + 1) < wl w (-1) ∧ (0 ≤ (a3 + 2) ∧ (a3 + 2) < wl w (-1) ∧ CI mX8_price [vR 1, vI (h (-1) (a3 + 1)), vI (h (-1) (a3 + 2))] w h (fun x106 h105 => CI mX9_price [vR 65, vI (h105 (-1) (a3 + 1)), vI (h105 (-1) (a3 + 2))] w h105 (fun x108 h107 => (x106 = x108 ∧ XI (mL_law nm) 18 [some (vR (-1)), some (vR 1), some (vR 65), some (vI (a3 + 6))] [] w h107 Q)))))) ∧ ((andZ (h (-1) a3) 31) = 11 → (0 ≤ (a3 + 1) ∧ (a3 + 1) < wl w (-1) ∧ CI mX8_proof [vR 1, vI (h (-1) (a3 + 1))] w h (fun x114 h113 => CI mX9_proof [vR 65, vI (h113 (-1) (a3 + 1))] w h113 (fun x116 h115 => (x114 = x116 ∧ XI (mL_law nm) 18 [some (vR (-1)), some (vR 1), some (vR 65), some (vI (a3 + 6))] [] w h115 Q))))) ∧ ((andZ (h (-1) a3) 31) = 12 → (0 ≤ (a3 + 1) ∧ (a3 + 1) < wl w (-1) ∧ (0 ≤ (a3 + 2) ∧ (a3 + 2) < wl w (-1) ∧ CI mX8_answer [vR 1, vI (h (-1) (a3 + 1)), vI (h (-1) (a3 + 2))] w h (fun x124 h123 => CI mX9_answer [vR 65, vI (h123 (-1) (a3 + 1)), vI (h123 (-1) (a3 + 2))] w h123 (fun x126 h125 => (x124 = x126 ∧ XI (mL_law nm) 18 [some (vR (-1)), some (vR 1), some (vR 65), some (vI (a3 + 6))] [] w h125 Q)))))) ∧ ((andZ (h (-1) a3) 31) = 13 → (0 ≤ (a3 + 1) ∧ (a3 + 1) < wl w (-1) ∧ CI mX8_rule [vR 1, vI (h (-1) (a3 + 1))] w h (fun x132 h131 => CI mX9_rule [vR 65, vI (h131 (-1) (a3 + 1))] w h131 (fun x134 h133 => (x132 = x134 ∧ XI (mL_law nm) 18 [some (vR (-1)), some (vR 1), some (vR 65), some (vI (a3 + 6))] [] w h133 Q))))) ∧ ((andZ (h (-1) a3) 31) = 14 → (0 ≤ (a3 + 1) ∧ (a3 + 1) < wl w (-1) ∧ CI mX8_go [vR 1, vI (h (-1) (a3 + 1))] w h (fun x140 h139 => CI mX9_go [vR 65, vI (h139 (-1) (a3 + 1))] w h139 (fun x142 h141 => (x140 = x142 ∧ XI (mL_law nm) 18 [some (vR (-1)), some (vR 1), some (vR 65), some (vI (a3 + 6))] [] w h141 Q))))) ∧ ((andZ (h (-1) a3) 31) = 15 → (0 ≤ (a3 + 1) ∧ (a3 + 1) < wl w (-1) ∧ CI mX8_ring [vR 1, vI (h (-1) (a3 + 1))] w h (fun x148 h147 => CI mX9_ring [vR 65, vI (h147 (-1) (a3 + 1))] w h147 (fun x150 h149 => (x148 = x150 ∧ XI (mL_law nm) 18 [some (vR (-1)), some (vR 1), some (vR 65), some (vI (a3 + 6))] [] w h149 Q))))) ∧ ((andZ (h (-1) a3) 31) = 16 → CI mX8_now [vR 1] w h (fun x154 h153 => CI mX9_now [vR 65] w h153 (fun x156 h155 => (x154 = x156 ∧ XI (mL_law nm) 18 [some (vR (-1)), some (vR 1), some (vR 65), some (vI (a3 + 6))] [] w h155 Q)))) ∧ ((andZ (h (-1) a3) 31) = 17 → (0 ≤ (a3 + 1) ∧ (a3 + 1) < wl w (-1) ∧ CI mX8_hand [vR 1, vI (h (-1) (a3 + 1))] w h (fun x162 h161 => CI mX9_hand [vR 65, vI (h161 (-1) (a3 + 1))] w h161 (fun x164 h163 => (x162 = x164 ∧ XI (mL_law nm) 18 [some (vR (-1)), some (vR 1), some (vR 65), some (vI (a3 + 6))] [] w h163 Q))))) ∧ ((andZ (h (-1) a3) 31) = 18 → (0 ≤ (a3 + 1) ∧ (a3 + 1) < wl w (-1) ∧ CI mX8_round [vR 1, vI (h (-1) (a3 + 1))] w h (fun x170 h169 => CI mX9_round [vR 65, vI (h169 (-1) (a3 + 1))] w h169 (fun x172 h171 => (x170 = x172 ∧ XI (mL_law nm) 18 [some (vR (-1)), some (vR 1), some (vR 65), some (vI (a3 + 6))] [] w h171 Q))))) ∧ ((andZ (h (-1) a3) 31) = 19 → (0 ≤ (a3 + 1) ∧ (a3 + 1) < wl w (-1) ∧ CI mX8_roundAt [vR 1, vI (h (-1) (a3 + 1))] w h (fun x178 h177 => CI mX9_roundAt [vR 65, vI (h177 (-1) (a3 + 1))] w h177 (fun x180 h179 => (x178 = x180 ∧ XI (mL_law nm) 18 [some (vR (-1)), some (vR 1), some (vR 65), some (vI (a3 + 6))] [] w h179 Q))))) ∧ ((andZ (h (-1) a3) 31) = 20 → (0 ≤ (a3 + 1) ∧ (a3 + 1) < wl w (-1) ∧ (0 ≤ (a3 + 2) ∧ (a3 + 2) < wl w (-1) ∧ (0 ≤ (a3 + 3) ∧ (a3 + 3) < wl w (-1) ∧ CI mX8_would [vR 1, vI (h (-1) (a3 + 1)), vI (h (-1) (a3 + 2)), vI (h (-1) (a3 + 3))] w h (fun x190 h189 => CI mX9_would [vR 65, vI (h189 (-1) (a3 + 1)), vI (h189 (-1) (a3 + 2)), vI (h189 (-1) (a3 + 3))] w h189 (fun x192 h191 => (x190 = x192 ∧ XI (mL_law nm) 18 [some (vR (-1)), some (vR 1), some (vR 65), some (vI (a3 + 6))] [] w h191 Q))))))) ∧ ((andZ (h (-1) a3) 31) = 21 → (0 ≤ (a3 + 1) ∧ (a3 + 1) < wl w (-1) ∧ (0 ≤ (a3 + 2) ∧ (a3 + 2) < wl w (-1) ∧ CI mX8_enough [vR 1, vI (h (-1) (a3 + 1)), vI (h (-1) (a3 + 2))] w h (fun x200 h199 => CI mX9_enough [vR 65, vI (h199 (-1) (a3 + 1)), vI (h199 (-1) (a3 + 2))] w h199 (fun x202 h201 => (x200 = x202 ∧ XI (mL_law nm) 18 [some (vR (-1)), some (vR 1), some (vR 65), some (vI (a3 + 6))] [] w h201 Q)))))) ∧ (((andZ (h (-1) a3) 31) < 0 ∨ 21 < (andZ (h (-1) a3) 31)) → XI (mL_law nm) 18 [some (vR (-1)), some (vR 1), some (vR 65), some (vI (a3 + 6))] [] w h Q))))))))) : XI (mL_law nm) 18 [some (vR (-1)), some (vR 1), some (vR 65), some (vI a3)] [] w h Q := by
  refine s_iload_n (pc' := 19) (x := a3) dL_law_18 rfl rfl ?_
  refine s_aload_n (pc' := 20) (x := (-1)) dL_law_19 rfl rfl ?_
  obtain ⟨z1, V⟩ := V
  refine s_alen6 (pc' := 21) dL_law_20 z1 rfl ?_
  refine s_bipush (pc' := 23) dL_law_21 (by first | decide | exact Nat.le_of_ble_eq_true rfl | exact ⟨Nat.le_of_ble_eq_true rfl, Nat.le_of_ble_eq_true rfl⟩) rfl ?_
  refine s_isub (pc' := 24) dL_law_23 rfl ?_
  obtain ⟨z2, z3, V⟩ := V
  obtain ⟨V206, V207⟩ := V
  refine s_icmp_gt (pc' := 27) (tgt := 758) dL_law_24 rfl rfl z2 z3 (fun c => ?_) (fun c => ?_)
  · have V := V206 c
    refine s_iconst (pc' := 759) dL_law_758 rfl ?_
    exact s_zret dL_law_759 rfl (by first | decide | exact Nat.le_of_ble_eq_true rfl | exact ⟨Nat.le_of_ble_eq_true rfl, Nat.le_of_ble_eq_true rfl⟩) ⟨_, rfl, rfl, V⟩
  · have V := V207 c
    refine s_aload_n (pc' := 28) (x := (-1)) dL_law_27 rfl rfl ?_
    refine s_iload_n (pc' := 29) (x := a3) dL_law_28 rfl rfl ?_
    obtain ⟨z4, z5, V⟩ := V
    refine s_iald6 (pc' := 30) dL_law_29 z1 z4 z5 rfl ?_
    refine s_bipush (pc' := 32) dL_law_30 (by first | decide | exact Nat.le_of_ble_eq_true rfl | exact ⟨Nat.le_of_ble_eq_true rfl, Nat.le_of_ble_eq_true rfl⟩) rfl ?_
    refine s_iand (pc' := 33) (z := (andZ (h (-1) a3) 31)) dL_law_32 (andZ_ok _ _) rfl ?_
    obtain ⟨z6, V⟩ := V
    obtain ⟨V22, V30, V36, V44, V52, V62, V72, V82, V90, V100, V110, V118, V128, V136, V144, V152, V158, V166, V174, V182, V194, V204, V205⟩ := V
    by_cases c : (andZ (h (-1) a3) 31) = 0
    · have V := V22 c
      refine s_tableIn (v := 0) (tgt := 136) dL_law_33 c (by first | decide | exact Nat.le_of_ble_eq_true rfl | exact ⟨Nat.le_of_ble_eq_true rfl, Nat.le_of_ble_eq_true rfl⟩) (by first | decide | exact Nat.le_of_ble_eq_true rfl | exact ⟨Nat.le_of_ble_eq_true rfl, Nat.le_of_ble_eq_true rfl⟩) (by first | decide | exact Nat.le_of_ble_eq_true rfl | exact ⟨Nat.le_of_ble_eq_true rfl, Nat.le_of_ble_eq_true rfl⟩) rfl rfl ?_
      refine s_aload_n (pc' := 137) (x := 1) dL_law_136 rfl rfl ?_
      refine s_aload_n (pc' := 138) (x := (-1)) dL_law_137 rfl rfl ?_
      refine s_iload_n (pc' := 139) (x := a3) dL_law_138 rfl rfl ?_
      refine s_iconst (pc' := 140) dL_law_139 rfl ?_
      refine s_iadd (pc' := 141) dL_law_140 rfl ?_
      obtain ⟨z7, z8, V⟩ := V
      refine s_iald6 (pc' := 142) dL_law_141 z1 z7 z8 rfl ?_
      refine s_aload_n (pc' := 143) (x := (-1)) dL_law_142 rfl rfl ?_
      refine s_iload_n (pc' := 144) (x := a3) dL_law_143 rfl rfl ?_
      refine s_iconst (pc' := 145) dL_law_144 rfl ?_
      refine s_iadd (pc' := 146) dL_law_145 rfl ?_
      obtain ⟨z9, z10, V⟩ := V
      refine s_iald6 (pc' := 147) dL_law_146 z1 z9 z10 rfl ?_
      refine s_aload_n (pc' := 148) (x := (-1)) dL_law_147 rfl rfl ?_
      refine s_iload_n (pc' := 149) (x := a3) dL_law_148 rfl rfl ?_
      refine s_iconst (pc' := 150) dL_law_149 rfl ?_
      refine s_iadd (pc' := 151) dL_law_150 rfl ?_
      obtain ⟨z11, z12, V⟩ := V
      refine s_iald6 (pc' := 152) dL_law_151 z1 z11 z12 rfl ?_
      refine s_aload_n (pc' := 153) (x := (-1)) dL_law_152 rfl rfl ?_
      refine s_iload_n (pc' := 154) (x := a3) dL_law_153 rfl rfl ?_
      refine s_iconst (pc' := 155) dL_law_154 rfl ?_
      refine s_iadd (pc' := 156) dL_law_155 rfl ?_
      obtain ⟨z13, z14, V⟩ := V
      refine s_iald6 (pc' := 157) dL_law_156 z1 z13 z14 rfl ?_
      refine s_aload_n (pc' := 158) (x := (-1)) dL_law_157 rfl rfl ?_
      refine s_iload_n (pc' := 159) (x := a3) dL_law_158 rfl rfl ?_
      refine s_iconst (pc' := 160) dL_law_159 rfl ?_
      refine s_iadd (pc' := 161) dL_law_160 rfl ?_
      obtain ⟨z15, z16, V⟩ := V
      refine s_iald6 (pc' := 162) dL_law_161 z1 z15 z16 rfl ?_
      refine s_callV (pc' := 165) (av := [vI (h (-1) (a3 + 1)), vI (h (-1) (a3 + 2)), vI (h (-1) (a3 + 3)), vI (h (-1) (a3 + 4)), vI (h (-1) (a3 + 5))]) (a := 1) (sk := []) (kc := 8) dL_law_162 ml_L_13 okX8_feed oiX8_feed (by first | decide | exact Nat.le_of_ble_eq_true rfl | exact ⟨Nat.le_of_ble_eq_true rfl, Nat.le_of_ble_eq_true rfl⟩) (NF := 14) rfl (fa_t1 sA) rfl (Nat.le_of_ble_eq_true rfl) (Nat.le_refl 0) (Nat.le_refl 0) rfl (CI.on V (fun x18 h17 V => ?_))
      refine s_aload_n (pc' := 166) (x := 65) dL_law_165 rfl rfl ?_
      refine s_aload_n (pc' := 167) (x := (-1)) dL_law_166 rfl rfl ?_
      refine s_iload_n (pc' := 168) (x := a3) dL_law_167 rfl rfl ?_
      refine s_iconst (pc' := 169) dL_law_168 rfl ?_
      refine s_iadd (pc' := 170) dL_law_169 rfl ?_
      refine s_iald6 (pc' := 171) dL_law_170 z1 z7 z8 rfl ?_
      refine s_aload_n (pc' := 172) (x := (-1)) dL_law_171 rfl rfl ?_
      refine s_iload_n (pc' := 173) (x := a3) dL_law_172 rfl rfl ?_
      refine s_iconst (pc' := 174) dL_law_173 rfl ?_
      refine s_iadd (pc' := 175) dL_law_174 rfl ?_
      refine s_iald6 (pc' := 176) dL_law_175 z1 z9 z10 rfl ?_
      refine s_aload_n (pc' := 177) (x := (-1)) dL_law_176 rfl rfl ?_
      refine s_iload_n (pc' := 178) (x := a3) dL_law_177 rfl rfl ?_
      refine s_iconst (pc' := 179) dL_law_178 rfl ?_
      refine s_iadd (pc' := 180) dL_law_179 rfl ?_
      refine s_iald6 (pc' := 181) dL_law_180 z1 z11 z12 rfl ?_
      refine s_aload_n (pc' := 182) (x := (-1)) dL_law_181 rfl rfl ?_
      refine s_iload_n (pc' := 183) (x := a3) dL_law_182 rfl rfl ?_
      refine s_iconst (pc' := 184) dL_law_183 rfl ?_
      refine s_iadd (pc' := 185) dL_law_184 rfl ?_
      refine s_iald6 (pc' := 186) dL_law_185 z1 z13 z14 rfl ?_
      refine s_aload_n (pc' := 187) (x := (-1)) dL_law_186 rfl rfl ?_
      refine s_iload_n (pc' := 188) (x := a3) dL_law_187 rfl rfl ?_
      refine s_iconst (pc' := 189) dL_law_188 rfl ?_
      refine s_iadd (pc' := 190) dL_law_189 rfl ?_
      refine s_iald6 (pc' := 191) dL_law_190 z1 z15 z16 rfl ?_
      refine s_callV (pc' := 194) (av := [vI (h17 (-1) (a3 + 1)), vI (h17 (-1) (a3 + 2)), vI (h17 (-1) (a3 + 3)), vI (h17 (-1) (a3 + 4)), vI (h17 (-1) (a3 + 5))]) (a := 65) (sk := [vI x18]) (kc := 9) dL_law_191 ml_L_17 okX9_feed oiX9_feed (by first | decide | exact Nat.le_of_ble_eq_true rfl | exact ⟨Nat.le_of_ble_eq_true rfl, Nat.le_of_ble_eq_true rfl⟩) (NF := 39) rfl (fa_t65 sA) rfl (Nat.le_of_ble_eq_true rfl) (Nat.le_refl 0) (Nat.le_refl 0) rfl (CI.on V (fun x20 h19 V => ?_))
      obtain ⟨e21, V⟩ := V
      refine s_icmp_same (pc' := 197) (tgt := 752) dL_law_194 rfl rfl e21 ?_
      refine s_iinc (pc' := 755) (ls' := [some (vR (-1)), some (vR 1), some (vR 65), some (vI (a3 + 6))]) dL_law_752 rfl (by first | decide | exact Nat.le_of_ble_eq_true rfl | exact ⟨Nat.le_of_ble_eq_true rfl, Nat.le_of_ble_eq_true rfl⟩) rfl rfl ?_
      refine s_goto (tgt := 18) dL_law_755 rfl ?_
      exact V
    have c0 := c
    by_cases c : (andZ (h (-1) a3) 31) = 1
    · have V := V30 c
      refine s_tableIn (v := 1) (tgt := 199) dL_law_33 c (by first | decide | exact Nat.le_of_ble_eq_true rfl | exact ⟨Nat.le_of_ble_eq_true rfl, Nat.le_of_ble_eq_true rfl⟩) (by first | decide | exact Nat.le_of_ble_eq_true rfl | exact ⟨Nat.le_of_ble_eq_true rfl, Nat.le_of_ble_eq_true rfl⟩) (by first | decide | exact Nat.le_of_ble_eq_true rfl | exact ⟨Nat.le_of_ble_eq_true rfl, Nat.le_of_ble_eq_true rfl⟩) rfl rfl ?_
      refine s_aload_n (pc' := 200) (x := 1) dL_law_199 rfl rfl ?_
      refine s_aload_n (pc' := 201) (x := (-1)) dL_law_200 rfl rfl ?_
      refine s_iload_n (pc' := 202) (x := a3) dL_law_201 rfl rfl ?_
      refine s_iconst (pc' := 203) dL_law_202 rfl ?_
      refine s_iadd (pc' := 204) dL_law_203 rfl ?_
      obtain ⟨z23, z24, V⟩ := V
      refine s_iald6 (pc' := 205) dL_law_204 z1 z23 z24 rfl ?_
      refine s_callV (pc' := 208) (av := [vI (h (-1) (a3 + 1))]) (a := 1) (sk := []) (kc := 8) dL_law_205 ml_L_18 okX8_end oiX8_end (by first | decide | exact Nat.le_of_ble_eq_true rfl | exact ⟨Nat.le_of_ble_eq_true rfl, Nat.le_of_ble_eq_true rfl⟩) (NF := 14) rfl (fa_t1 sA) rfl (Nat.le_of_ble_eq_true rfl) (Nat.le_refl 0) (Nat.le_refl 0) rfl (CI.on V (fun x26 h25 V => ?_))
      refine s_aload_n (pc' := 209) (x := 65) dL_law_208 rfl rfl ?_
      refine s_aload_n (pc' := 210) (x := (-1)) dL_law_209 rfl rfl ?_
      refine s_iload_n (pc' := 211) (x := a3) dL_law_210 rfl rfl ?_
      refine s_iconst (pc' := 212) dL_law_211 rfl ?_
      refine s_iadd (pc' := 213) dL_law_212 rfl ?_
      refine s_iald6 (pc' := 214) dL_law_213 z1 z23 z24 rfl ?_
      refine s_callV (pc' := 217) (av := [vI (h25 (-1) (a3 + 1))]) (a := 65) (sk := [vI x26]) (kc := 9) dL_law_214 ml_L_22 okX9_end oiX9_end (by first | decide | exact Nat.le_of_ble_eq_true rfl | exact ⟨Nat.le_of_ble_eq_true rfl, Nat.le_of_ble_eq_true rfl⟩) (NF := 39) rfl (fa_t65 sA) rfl (Nat.le_of_ble_eq_true rfl) (Nat.le_refl 0) (Nat.le_refl 0) rfl (CI.on V (fun x28 h27 V => ?_))
      obtain ⟨e29, V⟩ := V
      refine s_icmp_same (pc' := 220) (tgt := 752) dL_law_217 rfl rfl e29 ?_
      refine s_iinc (pc' := 755) (ls' := [some (vR (-1)), some (vR 1), some (vR 65), some (vI (a3 + 6))]) dL_law_752 rfl (by first | decide | exact Nat.le_of_ble_eq_true rfl | exact ⟨Nat.le_of_ble_eq_true rfl, Nat.le_of_ble_eq_true rfl⟩) rfl rfl ?_
      refine s_goto (tgt := 18) dL_law_755 rfl ?_
      exact V
    have c1 := c
    by_cases c : (andZ (h (-1) a3) 31) = 2
    · have V := V36 c
      refine s_tableIn (v := 2) (tgt := 222) dL_law_33 c (by first | decide | exact Nat.le_of_ble_eq_true rfl | exact ⟨Nat.le_of_ble_eq_true rfl, Nat.le_of_ble_eq_true rfl⟩) (by first | decide | exact Nat.le_of_ble_eq_true rfl | exact ⟨Nat.le_of_ble_eq_true rfl, Nat.le_of_ble_eq_true rfl⟩) (by first | decide | exact Nat.le_of_ble_eq_true rfl | exact ⟨Nat.le_of_ble_eq_true rfl, Nat.le_of_ble_eq_true rfl⟩) rfl rfl ?_
      refine s_aload_n (pc' := 223) (x := 1) dL_law_222 rfl rfl ?_
      refine s_callV (pc' := 226) (av := []) (a := 1) (sk := []) (kc := 8) dL_law_223 ml_L_23 okX8_text oiX8_text (by first | decide | exact Nat.le_of_ble_eq_true rfl | exact ⟨Nat.le_of_ble_eq_true rfl, Nat.le_of_ble_eq_true rfl⟩) (NF := 14) rfl (fa_t1 sA) rfl (Nat.le_of_ble_eq_true rfl) (Nat.le_refl 0) (Nat.le_refl 0) rfl (CI.on V (fun x32 h31 V => ?_))
      refine s_aload_n (pc' := 227) (x := 65) dL_law_226 rfl rfl ?_
      refine s_callV (pc' := 230) (av := []) (a := 65) (sk := [vI x32]) (kc := 9) dL_law_227 ml_L_27 okX9_text oiX9_text (by first | decide | exact Nat.le_of_ble_eq_true rfl | exact ⟨Nat.le_of_ble_eq_true rfl, Nat.le_of_ble_eq_true rfl⟩) (NF := 39) rfl (fa_t65 sA) rfl (Nat.le_of_ble_eq_true rfl) (Nat.le_refl 0) (Nat.le_refl 0) rfl (CI.on V (fun x34 h33 V => ?_))
      obtain ⟨e35, V⟩ := V
      refine s_icmp_same (pc' := 233) (tgt := 752) dL_law_230 rfl rfl e35 ?_
      refine s_iinc (pc' := 755) (ls' := [some (vR (-1)), some (vR 1), some (vR 65), some (vI (a3 + 6))]) dL_law_752 rfl (by first | decide | exact Nat.le_of_ble_eq_true rfl | exact ⟨Nat.le_of_ble_eq_true rfl, Nat.le_of_ble_eq_true rfl⟩) rfl rfl ?_
      refine s_goto (tgt := 18) dL_law_755 rfl ?_
      exact V
    have c2 := c
    by_cases c : (andZ (h (-1) a3) 31) = 3
    · have V := V44 c
      refine s_tableIn (v := 3) (tgt := 235) dL_law_33 c (by first | decide | exact Nat.le_of_ble_eq_true rfl | exact ⟨Nat.le_of_ble_eq_true rfl, Nat.le_of_ble_eq_true rfl⟩) (by first | decide | exact Nat.le_of_ble_eq_true rfl | exact ⟨Nat.le_of_ble_eq_true rfl, Nat.le_of_ble_eq_true rfl⟩) (by first | decide | exact Nat.le_of_ble_eq_true rfl | exact ⟨Nat.le_of_ble_eq_true rfl, Nat.le_of_ble_eq_true rfl⟩) rfl rfl ?_
      refine s_aload_n (pc' := 236) (x := 1) dL_law_235 rfl rfl ?_
      refine s_aload_n (pc' := 237) (x := (-1)) dL_law_236 rfl rfl ?_
      refine s_iload_n (pc' := 238) (x := a3) dL_law_237 rfl rfl ?_
      refine s_iconst (pc' := 239) dL_law_238 rfl ?_
      refine s_iadd (pc' := 240) dL_law_239 rfl ?_
      obtain ⟨z37, z38, V⟩ := V
      refine s_iald6 (pc' := 241) dL_law_240 z1 z37 z38 rfl ?_
      refine s_callV (pc' := 244) (av := [vI (h (-1) (a3 + 1))]) (a := 1) (sk := []) (kc := 8) dL_law_241 ml_L_28 okX8_fault oiX8_fault (by first | decide | exact Nat.le_of_ble_eq_true rfl | exact ⟨Nat.le_of_ble_eq_true rfl, Nat.le_of_ble_eq_true rfl⟩) (NF := 14) rfl (fa_t1 sA) rfl (Nat.le_of_ble_eq_true rfl) (Nat.le_refl 0) (Nat.le_refl 0) rfl (CI.on V (fun x40 h39 V => ?_))
      refine s_aload_n (pc' := 245) (x := 65) dL_law_244 rfl rfl ?_
      refine s_aload_n (pc' := 246) (x := (-1)) dL_law_245 rfl rfl ?_
      refine s_iload_n (pc' := 247) (x := a3) dL_law_246 rfl rfl ?_
      refine s_iconst (pc' := 248) dL_law_247 rfl ?_
      refine s_iadd (pc' := 249) dL_law_248 rfl ?_
      refine s_iald6 (pc' := 250) dL_law_249 z1 z37 z38 rfl ?_
      refine s_callV (pc' := 253) (av := [vI (h39 (-1) (a3 + 1))]) (a := 65) (sk := [vI x40]) (kc := 9) dL_law_250 ml_L_31 okX9_fault oiX9_fault (by first | decide | exact Nat.le_of_ble_eq_true rfl | exact ⟨Nat.le_of_ble_eq_true rfl, Nat.le_of_ble_eq_true rfl⟩) (NF := 39) rfl (fa_t65 sA) rfl (Nat.le_of_ble_eq_true rfl) (Nat.le_refl 0) (Nat.le_refl 0) rfl (CI.on V (fun x42 h41 V => ?_))
      obtain ⟨e43, V⟩ := V
      refine s_icmp_same (pc' := 256) (tgt := 752) dL_law_253 rfl rfl e43 ?_
      refine s_iinc (pc' := 755) (ls' := [some (vR (-1)), some (vR 1), some (vR 65), some (vI (a3 + 6))]) dL_law_752 rfl (by first | decide | exact Nat.le_of_ble_eq_true rfl | exact ⟨Nat.le_of_ble_eq_true rfl, Nat.le_of_ble_eq_true rfl⟩) rfl rfl ?_
      refine s_goto (tgt := 18) dL_law_755 rfl ?_
      exact V
    have c3 := c
    by_cases c : (andZ (h (-1) a3) 31) = 4
    · have V := V52 c
      refine s_tableIn (v := 4) (tgt := 258) dL_law_33 c (by first | decide | exact Nat.le_of_ble_eq_true rfl | exact ⟨Nat.le_of_ble_eq_true rfl, Nat.le_of_ble_eq_true rfl⟩) (by first | decide | exact Nat.le_of_ble_eq_true rfl | exact ⟨Nat.le_of_ble_eq_true rfl, Nat.le_of_ble_eq_true rfl⟩) (by first | decide | exact Nat.le_of_ble_eq_true rfl | exact ⟨Nat.le_of_ble_eq_true rfl, Nat.le_of_ble_eq_true rfl⟩) rfl rfl ?_
      refine s_aload_n (pc' := 259) (x := 1) dL_law_258 rfl rfl ?_
      refine s_aload_n (pc' := 260) (x := (-1)) dL_law_259 rfl rfl ?_
      refine s_iload_n (pc' := 261) (x := a3) dL_law_260 rfl rfl ?_
      refine s_iconst (pc' := 262) dL_law_261 rfl ?_
      refine s_iadd (pc' := 263) dL_law_262 rfl ?_
      obtain ⟨z45, z46, V⟩ := V
      refine s_iald6 (pc' := 264) dL_law_263 z1 z45 z46 rfl ?_
      refine s_callV (pc' := 267) (av := [vI (h (-1) (a3 + 1))]) (a := 1) (sk := []) (kc := 8) dL_law_264 ml_L_32 okX8_count oiX8_count (by first | decide | exact Nat.le_of_ble_eq_true rfl | exact ⟨Nat.le_of_ble_eq_true rfl, Nat.le_of_ble_eq_true rfl⟩) (NF := 14) rfl (fa_t1 sA) rfl (Nat.le_of_ble_eq_true rfl) (Nat.le_refl 0) (Nat.le_refl 0) rfl (CI.on V (fun x48 h47 V => ?_))
      refine s_aload_n (pc' := 268) (x := 65) dL_law_267 rfl rfl ?_
      refine s_aload_n (pc' := 269) (x := (-1)) dL_law_268 rfl rfl ?_
      refine s_iload_n (pc' := 270) (x := a3) dL_law_269 rfl rfl ?_
      refine s_iconst (pc' := 271) dL_law_270 rfl ?_
      refine s_iadd (pc' := 272) dL_law_271 rfl ?_
      refine s_iald6 (pc' := 273) dL_law_272 z1 z45 z46 rfl ?_
      refine s_callV (pc' := 276) (av := [vI (h47 (-1) (a3 + 1))]) (a := 65) (sk := [vI x48]) (kc := 9) dL_law_273 ml_L_35 okX9_count oiX9_count (by first | decide | exact Nat.le_of_ble_eq_true rfl | exact ⟨Nat.le_of_ble_eq_true rfl, Nat.le_of_ble_eq_true rfl⟩) (NF := 39) rfl (fa_t65 sA) rfl (Nat.le_of_ble_eq_true rfl) (Nat.le_refl 0) (Nat.le_refl 0) rfl (CI.on V (fun x50 h49 V => ?_))
      obtain ⟨e51, V⟩ := V
      refine s_icmp_same (pc' := 279) (tgt := 752) dL_law_276 rfl rfl e51 ?_
      refine s_iinc (pc' := 755) (ls' := [some (vR (-1)), some (vR 1), some (vR 65), some (vI (a3 + 6))]) dL_law_752 rfl (by first | decide | exact Nat.le_of_ble_eq_true rfl | exact ⟨Nat.le_of_ble_eq_true rfl, Nat.le_of_ble_eq_true rfl⟩) rfl rfl ?_
      refine s_goto (tgt := 18) dL_law_755 rfl ?_
      exact V
    have c4 := c
    by_cases c : (andZ (h (-1) a3) 31) = 5
    · have V := V62 c
      refine s_tableIn (v := 5) (tgt := 281) dL_law_33 c (by first | decide | exact Nat.le_of_ble_eq_true rfl | exact ⟨Nat.le_of_ble_eq_true rfl, Nat.le_of_ble_eq_true rfl⟩) (by first | decide | exact Nat.le_of_ble_eq_true rfl | exact ⟨Nat.le_of_ble_eq_true rfl, Nat.le_of_ble_eq_true rfl⟩) (by first | decide | exact Nat.le_of_ble_eq_true rfl | exact ⟨Nat.le_of_ble_eq_true rfl, Nat.le_of_ble_eq_true rfl⟩) rfl rfl ?_
      refine s_aload_n (pc' := 282) (x := 1) dL_law_281 rfl rfl ?_
      refine s_aload_n (pc' := 283) (x := (-1)) dL_law_282 rfl rfl ?_
      refine s_iload_n (pc' := 284) (x := a3) dL_law_283 rfl rfl ?_
      refine s_iconst (pc' := 285) dL_law_284 rfl ?_
      refine s_iadd (pc' := 286) dL_law_285 rfl ?_
      obtain ⟨z53, z54, V⟩ := V
      refine s_iald6 (pc' := 287) dL_law_286 z1 z53 z54 rfl ?_
      refine s_aload_n (pc' := 288) (x := (-1)) dL_law_287 rfl rfl ?_
      refine s_iload_n (pc' := 289) (x := a3) dL_law_288 rfl rfl ?_
      refine s_iconst (pc' := 290) dL_law_289 rfl ?_
      refine s_iadd (pc' := 291) dL_law_290 rfl ?_
      obtain ⟨z55, z56, V⟩ := V
      refine s_iald6 (pc' := 292) dL_law_291 z1 z55 z56 rfl ?_
      refine s_callV (pc' := 295) (av := [vI (h (-1) (a3 + 1)), vI (h (-1) (a3 + 2))]) (a := 1) (sk := []) (kc := 8) dL_law_292 ml_L_36 okX8_kind oiX8_kind (by first | decide | exact Nat.le_of_ble_eq_true rfl | exact ⟨Nat.le_of_ble_eq_true rfl, Nat.le_of_ble_eq_true rfl⟩) (NF := 14) rfl (fa_t1 sA) rfl (Nat.le_of_ble_eq_true rfl) (Nat.le_refl 0) (Nat.le_refl 0) rfl (CI.on V (fun x58 h57 V => ?_))
      refine s_aload_n (pc' := 296) (x := 65) dL_law_295 rfl rfl ?_
      refine s_aload_n (pc' := 297) (x := (-1)) dL_law_296 rfl rfl ?_
      refine s_iload_n (pc' := 298) (x := a3) dL_law_297 rfl rfl ?_
      refine s_iconst (pc' := 299) dL_law_298 rfl ?_
      refine s_iadd (pc' := 300) dL_law_299 rfl ?_
      refine s_iald6 (pc' := 301) dL_law_300 z1 z53 z54 rfl ?_
      refine s_aload_n (pc' := 302) (x := (-1)) dL_law_301 rfl rfl ?_
      refine s_iload_n (pc' := 303) (x := a3) dL_law_302 rfl rfl ?_
      refine s_iconst (pc' := 304) dL_law_303 rfl ?_
      refine s_iadd (pc' := 305) dL_law_304 rfl ?_
      refine s_iald6 (pc' := 306) dL_law_305 z1 z55 z56 rfl ?_
      refine s_callV (pc' := 309) (av := [vI (h57 (-1) (a3 + 1)), vI (h57 (-1) (a3 + 2))]) (a := 65) (sk := [vI x58]) (kc := 9) dL_law_306 ml_L_40 okX9_kind oiX9_kind (by first | decide | exact Nat.le_of_ble_eq_true rfl | exact ⟨Nat.le_of_ble_eq_true rfl, Nat.le_of_ble_eq_true rfl⟩) (NF := 39) rfl (fa_t65 sA) rfl (Nat.le_of_ble_eq_true rfl) (Nat.le_refl 0) (Nat.le_refl 0) rfl (CI.on V (fun x60 h59 V => ?_))
      obtain ⟨e61, V⟩ := V
      refine s_icmp_same (pc' := 312) (tgt := 752) dL_law_309 rfl rfl e61 ?_
      refine s_iinc (pc' := 755) (ls' := [some (vR (-1)), some (vR 1), some (vR 65), some (vI (a3 + 6))]) dL_law_752 rfl (by first | decide | exact Nat.le_of_ble_eq_true rfl | exact ⟨Nat.le_of_ble_eq_true rfl, Nat.le_of_ble_eq_true rfl⟩) rfl rfl ?_
      refine s_goto (tgt := 18) dL_law_755 rfl ?_
      exact V
    have c5 := c
    by_cases c : (andZ (h (-1) a3) 31) = 6
    · have V := V72 c
      refine s_tableIn (v := 6) (tgt := 314) dL_law_33 c (by first | decide | exact Nat.le_of_ble_eq_true rfl | exact ⟨Nat.le_of_ble_eq_true rfl, Nat.le_of_ble_eq_true rfl⟩) (by first | decide | exact Nat.le_of_ble_eq_true rfl | exact ⟨Nat.le_of_ble_eq_true rfl, Nat.le_of_ble_eq_true rfl⟩) (by first | decide | exact Nat.le_of_ble_eq_true rfl | exact ⟨Nat.le_of_ble_eq_true rfl, Nat.le_of_ble_eq_true rfl⟩) rfl rfl ?_
      refine s_aload_n (pc' := 315) (x := 1) dL_law_314 rfl rfl ?_
      refine s_aload_n (pc' := 316) (x := (-1)) dL_law_315 rfl rfl ?_
      refine s_iload_n (pc' := 317) (x := a3) dL_law_316 rfl rfl ?_
      refine s_iconst (pc' := 318) dL_law_317 rfl ?_
      refine s_iadd (pc' := 319) dL_law_318 rfl ?_
      obtain ⟨z63, z64, V⟩ := V
      refine s_iald6 (pc' := 320) dL_law_319 z1 z63 z64 rfl ?_
      refine s_aload_n (pc' := 321) (x := (-1)) dL_law_320 rfl rfl ?_
      refine s_iload_n (pc' := 322) (x := a3) dL_law_321 rfl rfl ?_
      refine s_iconst (pc' := 323) dL_law_322 rfl ?_
      refine s_iadd (pc' := 324) dL_law_323 rfl ?_
      obtain ⟨z65, z66, V⟩ := V
      refine s_iald6 (pc' := 325) dL_law_324 z1 z65 z66 rfl ?_
      refine s_callV (pc' := 328) (av := [vI (h (-1) (a3 + 1)), vI (h (-1) (a3 + 2))]) (a := 1) (sk := []) (kc := 8) dL_law_325 ml_L_41 okX8_slacken oiX8_slacken (by first | decide | exact Nat.le_of_ble_eq_true rfl | exact ⟨Nat.le_of_ble_eq_true rfl, Nat.le_of_ble_eq_true rfl⟩) (NF := 14) rfl (fa_t1 sA) rfl (Nat.le_of_ble_eq_true rfl) (Nat.le_refl 0) (Nat.le_refl 0) rfl (CI.on V (fun x68 h67 V => ?_))
      refine s_aload_n (pc' := 329) (x := 65) dL_law_328 rfl rfl ?_
      refine s_aload_n (pc' := 330) (x := (-1)) dL_law_329 rfl rfl ?_
      refine s_iload_n (pc' := 331) (x := a3) dL_law_330 rfl rfl ?_
      refine s_iconst (pc' := 332) dL_law_331 rfl ?_
      refine s_iadd (pc' := 333) dL_law_332 rfl ?_
      refine s_iald6 (pc' := 334) dL_law_333 z1 z63 z64 rfl ?_
      refine s_aload_n (pc' := 335) (x := (-1)) dL_law_334 rfl rfl ?_
      refine s_iload_n (pc' := 336) (x := a3) dL_law_335 rfl rfl ?_
      refine s_iconst (pc' := 337) dL_law_336 rfl ?_
      refine s_iadd (pc' := 338) dL_law_337 rfl ?_
      refine s_iald6 (pc' := 339) dL_law_338 z1 z65 z66 rfl ?_
      refine s_callV (pc' := 342) (av := [vI (h67 (-1) (a3 + 1)), vI (h67 (-1) (a3 + 2))]) (a := 65) (sk := [vI x68]) (kc := 9) dL_law_339 ml_L_45 okX9_slacken oiX9_slacken (by first | decide | exact Nat.le_of_ble_eq_true rfl | exact ⟨Nat.le_of_ble_eq_true rfl, Nat.le_of_ble_eq_true rfl⟩) (NF := 39) rfl (fa_t65 sA) rfl (Nat.le_of_ble_eq_true rfl) (Nat.le_refl 0) (Nat.le_refl 0) rfl (CI.on V (fun x70 h69 V => ?_))
      obtain ⟨e71, V⟩ := V
      refine s_icmp_same (pc' := 345) (tgt := 752) dL_law_342 rfl rfl e71 ?_
      refine s_iinc (pc' := 755) (ls' := [some (vR (-1)), some (vR 1), some (vR 65), some (vI (a3 + 6))]) dL_law_752 rfl (by first | decide | exact Nat.le_of_ble_eq_true rfl | exact ⟨Nat.le_of_ble_eq_true rfl, Nat.le_of_ble_eq_true rfl⟩) rfl rfl ?_
      refine s_goto (tgt := 18) dL_law_755 rfl ?_
      exact V
    have c6 := c
    by_cases c : (andZ (h (-1) a3) 31) = 7
    · have V := V82 c
      refine s_tableIn (v := 7) (tgt := 347) dL_law_33 c (by first | decide | exact Nat.le_of_ble_eq_true rfl | exact ⟨Nat.le_of_ble_eq_true rfl, Nat.le_of_ble_eq_true rfl⟩) (by first | decide | exact Nat.le_of_ble_eq_true rfl | exact ⟨Nat.le_of_ble_eq_true rfl, Nat.le_of_ble_eq_true rfl⟩) (by first | decide | exact Nat.le_of_ble_eq_true rfl | exact ⟨Nat.le_of_ble_eq_true rfl, Nat.le_of_ble_eq_true rfl⟩) rfl rfl ?_
      refine s_aload_n (pc' := 348) (x := 1) dL_law_347 rfl rfl ?_
      refine s_aload_n (pc' := 349) (x := (-1)) dL_law_348 rfl rfl ?_
      refine s_iload_n (pc' := 350) (x := a3) dL_law_349 rfl rfl ?_
      refine s_iconst (pc' := 351) dL_law_350 rfl ?_
      refine s_iadd (pc' := 352) dL_law_351 rfl ?_
      obtain ⟨z73, z74, V⟩ := V
      refine s_iald6 (pc' := 353) dL_law_352 z1 z73 z74 rfl ?_
      refine s_aload_n (pc' := 354) (x := (-1)) dL_law_353 rfl rfl ?_
      refine s_iload_n (pc' := 355) (x := a3) dL_law_354 rfl rfl ?_
      refine s_iconst (pc' := 356) dL_law_355 rfl ?_
      refine s_iadd (pc' := 357) dL_law_356 rfl ?_
      obtain ⟨z75, z76, V⟩ := V
      refine s_iald6 (pc' := 358) dL_law_357 z1 z75 z76 rfl ?_
      refine s_callV (pc' := 361) (av := [vI (h (-1) (a3 + 1)), vI (h (-1) (a3 + 2))]) (a := 1) (sk := []) (kc := 8) dL_law_358 ml_L_46 okX8_call oiX8_call (by first | decide | exact Nat.le_of_ble_eq_true rfl | exact ⟨Nat.le_of_ble_eq_true rfl, Nat.le_of_ble_eq_true rfl⟩) (NF := 14) rfl (fa_t1 sA) rfl (Nat.le_of_ble_eq_true rfl) (Nat.le_refl 0) (Nat.le_refl 0) rfl (CI.on V (fun x78 h77 V => ?_))
      refine s_aload_n (pc' := 362) (x := 65) dL_law_361 rfl rfl ?_
      refine s_aload_n (pc' := 363) (x := (-1)) dL_law_362 rfl rfl ?_
      refine s_iload_n (pc' := 364) (x := a3) dL_law_363 rfl rfl ?_
      refine s_iconst (pc' := 365) dL_law_364 rfl ?_
      refine s_iadd (pc' := 366) dL_law_365 rfl ?_
      refine s_iald6 (pc' := 367) dL_law_366 z1 z73 z74 rfl ?_
      refine s_aload_n (pc' := 368) (x := (-1)) dL_law_367 rfl rfl ?_
      refine s_iload_n (pc' := 369) (x := a3) dL_law_368 rfl rfl ?_
      refine s_iconst (pc' := 370) dL_law_369 rfl ?_
      refine s_iadd (pc' := 371) dL_law_370 rfl ?_
      refine s_iald6 (pc' := 372) dL_law_371 z1 z75 z76 rfl ?_
      refine s_callV (pc' := 375) (av := [vI (h77 (-1) (a3 + 1)), vI (h77 (-1) (a3 + 2))]) (a := 65) (sk := [vI x78]) (kc := 9) dL_law_372 ml_L_49 okX9_call oiX9_call (by first | decide | exact Nat.le_of_ble_eq_true rfl | exact ⟨Nat.le_of_ble_eq_true rfl, Nat.le_of_ble_eq_true rfl⟩) (NF := 39) rfl (fa_t65 sA) rfl (Nat.le_of_ble_eq_true rfl) (Nat.le_refl 0) (Nat.le_refl 0) rfl (CI.on V (fun x80 h79 V => ?_))
      obtain ⟨e81, V⟩ := V
      refine s_icmp_same (pc' := 378) (tgt := 752) dL_law_375 rfl rfl e81 ?_
      refine s_iinc (pc' := 755) (ls' := [some (vR (-1)), some (vR 1), some (vR 65), some (vI (a3 + 6))]) dL_law_752 rfl (by first | decide | exact Nat.le_of_ble_eq_true rfl | exact ⟨Nat.le_of_ble_eq_true rfl, Nat.le_of_ble_eq_true rfl⟩) rfl rfl ?_
      refine s_goto (tgt := 18) dL_law_755 rfl ?_
      exact V
    have c7 := c
    by_cases c : (andZ (h (-1) a3) 31) = 8
    · have V := V90 c
      refine s_tableIn (v := 8) (tgt := 380) dL_law_33 c (by first | decide | exact Nat.le_of_ble_eq_true rfl | exact ⟨Nat.le_of_ble_eq_true rfl, Nat.le_of_ble_eq_true rfl⟩) (by first | decide | exact Nat.le_of_ble_eq_true rfl | exact ⟨Nat.le_of_ble_eq_true rfl, Nat.le_of_ble_eq_true rfl⟩) (by first | decide | exact Nat.le_of_ble_eq_true rfl | exact ⟨Nat.le_of_ble_eq_true rfl, Nat.le_of_ble_eq_true rfl⟩) rfl rfl ?_
      refine s_aload_n (pc' := 381) (x := 1) dL_law_380 rfl rfl ?_
      refine s_aload_n (pc' := 382) (x := (-1)) dL_law_381 rfl rfl ?_
      refine s_iload_n (pc' := 383) (x := a3) dL_law_382 rfl rfl ?_
      refine s_iconst (pc' := 384) dL_law_383 rfl ?_
      refine s_iadd (pc' := 385) dL_law_384 rfl ?_
      obtain ⟨z83, z84, V⟩ := V
      refine s_iald6 (pc' := 386) dL_law_385 z1 z83 z84 rfl ?_
      refine s_callV (pc' := 389) (av := [vI (h (-1) (a3 + 1))]) (a := 1) (sk := []) (kc := 8) dL_law_386 ml_L_50 okX8_wakes oiX8_wakes (by first | decide | exact Nat.le_of_ble_eq_true rfl | exact ⟨Nat.le_of_ble_eq_true rfl, Nat.le_of_ble_eq_true rfl⟩) (NF := 14) rfl (fa_t1 sA) rfl (Nat.le_of_ble_eq_true rfl) (Nat.le_refl 0) (Nat.le_refl 0) rfl (CI.on V (fun x86 h85 V => ?_))
      refine s_aload_n (pc' := 390) (x := 65) dL_law_389 rfl rfl ?_
      refine s_aload_n (pc' := 391) (x := (-1)) dL_law_390 rfl rfl ?_
      refine s_iload_n (pc' := 392) (x := a3) dL_law_391 rfl rfl ?_
      refine s_iconst (pc' := 393) dL_law_392 rfl ?_
      refine s_iadd (pc' := 394) dL_law_393 rfl ?_
      refine s_iald6 (pc' := 395) dL_law_394 z1 z83 z84 rfl ?_
      refine s_callV (pc' := 398) (av := [vI (h85 (-1) (a3 + 1))]) (a := 65) (sk := [vI x86]) (kc := 9) dL_law_395 ml_L_53 okX9_wakes oiX9_wakes (by first | decide | exact Nat.le_of_ble_eq_true rfl | exact ⟨Nat.le_of_ble_eq_true rfl, Nat.le_of_ble_eq_true rfl⟩) (NF := 39) rfl (fa_t65 sA) rfl (Nat.le_of_ble_eq_true rfl) (Nat.le_refl 0) (Nat.le_refl 0) rfl (CI.on V (fun x88 h87 V => ?_))
      obtain ⟨e89, V⟩ := V
      refine s_icmp_same (pc' := 401) (tgt := 752) dL_law_398 rfl rfl e89 ?_
      refine s_iinc (pc' := 755) (ls' := [some (vR (-1)), some (vR 1), some (vR 65), some (vI (a3 + 6))]) dL_law_752 rfl (by first | decide | exact Nat.le_of_ble_eq_true rfl | exact ⟨Nat.le_of_ble_eq_true rfl, Nat.le_of_ble_eq_true rfl⟩) rfl rfl ?_
      refine s_goto (tgt := 18) dL_law_755 rfl ?_
      exact V
    have c8 := c
    by_cases c : (andZ (h (-1) a3) 31) = 9
    · have V := V100 c
      refine s_tableIn (v := 9) (tgt := 403) dL_law_33 c (by first | decide | exact Nat.le_of_ble_eq_true rfl | exact ⟨Nat.le_of_ble_eq_true rfl, Nat.le_of_ble_eq_true rfl⟩) (by first | decide | exact Nat.le_of_ble_eq_true rfl | exact ⟨Nat.le_of_ble_eq_true rfl, Nat.le_of_ble_eq_true rfl⟩) (by first | decide | exact Nat.le_of_ble_eq_true rfl | exact ⟨Nat.le_of_ble_eq_true rfl, Nat.le_of_ble_eq_true rfl⟩) rfl rfl ?_
      refine s_aload_n (pc' := 404) (x := 1) dL_law_403 rfl rfl ?_
      refine s_aload_n (pc' := 405) (x := (-1)) dL_law_404 rfl rfl ?_
      refine s_iload_n (pc' := 406) (x := a3) dL_law_405 rfl rfl ?_
      refine s_iconst (pc' := 407) dL_law_406 rfl ?_
      refine s_iadd (pc' := 408) dL_law_407 rfl ?_
      obtain ⟨z91, z92, V⟩ := V
      refine s_iald6 (pc' := 409) dL_law_408 z1 z91 z92 rfl ?_
      refine s_aload_n (pc' := 410) (x := (-1)) dL_law_409 rfl rfl ?_
      refine s_iload_n (pc' := 411) (x := a3) dL_law_410 rfl rfl ?_
      refine s_iconst (pc' := 412) dL_law_411 rfl ?_
      refine s_iadd (pc' := 413) dL_law_412 rfl ?_
      obtain ⟨z93, z94, V⟩ := V
      refine s_iald6 (pc' := 414) dL_law_413 z1 z93 z94 rfl ?_
      refine s_callV (pc' := 417) (av := [vI (h (-1) (a3 + 1)), vI (h (-1) (a3 + 2))]) (a := 1) (sk := []) (kc := 8) dL_law_414 ml_L_54 okX8_wake oiX8_wake (by first | decide | exact Nat.le_of_ble_eq_true rfl | exact ⟨Nat.le_of_ble_eq_true rfl, Nat.le_of_ble_eq_true rfl⟩) (NF := 14) rfl (fa_t1 sA) rfl (Nat.le_of_ble_eq_true rfl) (Nat.le_refl 0) (Nat.le_refl 0) rfl (CI.on V (fun x96 h95 V => ?_))
      refine s_aload_n (pc' := 418) (x := 65) dL_law_417 rfl rfl ?_
      refine s_aload_n (pc' := 419) (x := (-1)) dL_law_418 rfl rfl ?_
      refine s_iload_n (pc' := 420) (x := a3) dL_law_419 rfl rfl ?_
      refine s_iconst (pc' := 421) dL_law_420 rfl ?_
      refine s_iadd (pc' := 422) dL_law_421 rfl ?_
      refine s_iald6 (pc' := 423) dL_law_422 z1 z91 z92 rfl ?_
      refine s_aload_n (pc' := 424) (x := (-1)) dL_law_423 rfl rfl ?_
      refine s_iload_n (pc' := 425) (x := a3) dL_law_424 rfl rfl ?_
      refine s_iconst (pc' := 426) dL_law_425 rfl ?_
      refine s_iadd (pc' := 427) dL_law_426 rfl ?_
      refine s_iald6 (pc' := 428) dL_law_427 z1 z93 z94 rfl ?_
      refine s_callV (pc' := 431) (av := [vI (h95 (-1) (a3 + 1)), vI (h95 (-1) (a3 + 2))]) (a := 65) (sk := [vI x96]) (kc := 9) dL_law_428 ml_L_57 okX9_wake oiX9_wake (by first | decide | exact Nat.le_of_ble_eq_true rfl | exact ⟨Nat.le_of_ble_eq_true rfl, Nat.le_of_ble_eq_true rfl⟩) (NF := 39) rfl (fa_t65 sA) rfl (Nat.le_of_ble_eq_true rfl) (Nat.le_refl 0) (Nat.le_refl 0) rfl (CI.on V (fun x98 h97 V => ?_))
      obtain ⟨e99, V⟩ := V
      refine s_icmp_same (pc' := 434) (tgt := 752) dL_law_431 rfl rfl e99 ?_
      refine s_iinc (pc' := 755) (ls' := [some (vR (-1)), some (vR 1), some (vR 65), some (vI (a3 + 6))]) dL_law_752 rfl (by first | decide | exact Nat.le_of_ble_eq_true rfl | exact ⟨Nat.le_of_ble_eq_true rfl, Nat.le_of_ble_eq_true rfl⟩) rfl rfl ?_
      refine s_goto (tgt := 18) dL_law_755 rfl ?_
      exact V
    have c9 := c
    by_cases c : (andZ (h (-1) a3) 31) = 10
    · have V := V110 c
      refine s_tableIn (v := 10) (tgt := 436) dL_law_33 c (by first | decide | exact Nat.le_of_ble_eq_true rfl | exact ⟨Nat.le_of_ble_eq_true rfl, Nat.le_of_ble_eq_true rfl⟩) (by first | decide | exact Nat.le_of_ble_eq_true rfl | exact ⟨Nat.le_of_ble_eq_true rfl, Nat.le_of_ble_eq_true rfl⟩) (by first | decide | exact Nat.le_of_ble_eq_true rfl | exact ⟨Nat.le_of_ble_eq_true rfl, Nat.le_of_ble_eq_true rfl⟩) rfl rfl ?_
      refine s_aload_n (pc' := 437) (x := 1) dL_law_436 rfl rfl ?_
      refine s_aload_n (pc' := 438) (x := (-1)) dL_law_437 rfl rfl ?_
      refine s_iload_n (pc' := 439) (x := a3) dL_law_438 rfl rfl ?_
      refine s_iconst (pc' := 440) dL_law_439 rfl ?_
      refine s_iadd (pc' := 441) dL_law_440 rfl ?_
      obtain ⟨z101, z102, V⟩ := V
      refine s_iald6 (pc' := 442) dL_law_441 z1 z101 z102 rfl ?_
      refine s_aload_n (pc' := 443) (x := (-1)) dL_law_442 rfl rfl ?_
      refine s_iload_n (pc' := 444) (x := a3) dL_law_443 rfl rfl ?_
      refine s_iconst (pc' := 445) dL_law_444 rfl ?_
      refine s_iadd (pc' := 446) dL_law_445 rfl ?_
      obtain ⟨z103, z104, V⟩ := V
      refine s_iald6 (pc' := 447) dL_law_446 z1 z103 z104 rfl ?_
      refine s_callV (pc' := 450) (av := [vI (h (-1) (a3 + 1)), vI (h (-1) (a3 + 2))]) (a := 1) (sk := []) (kc := 8) dL_law_447 ml_L_58 okX8_price oiX8_price (by first | decide | exact Nat.le_of_ble_eq_true rfl | exact ⟨Nat.le_of_ble_eq_true rfl, Nat.le_of_ble_eq_true rfl⟩) (NF := 14) rfl (fa_t1 sA) rfl (Nat.le_of_ble_eq_true rfl) (Nat.le_refl 0) (Nat.le_refl 0) rfl (CI.on V (fun x106 h105 V => ?_))
      refine s_aload_n (pc' := 451) (x := 65) dL_law_450 rfl rfl ?_
      refine s_aload_n (pc' := 452) (x := (-1)) dL_law_451 rfl rfl ?_
      refine s_iload_n (pc' := 453) (x := a3) dL_law_452 rfl rfl ?_
      refine s_iconst (pc' := 454) dL_law_453 rfl ?_
      refine s_iadd (pc' := 455) dL_law_454 rfl ?_
      refine s_iald6 (pc' := 456) dL_law_455 z1 z101 z102 rfl ?_
      refine s_aload_n (pc' := 457) (x := (-1)) dL_law_456 rfl rfl ?_
      refine s_iload_n (pc' := 458) (x := a3) dL_law_457 rfl rfl ?_
      refine s_iconst (pc' := 459) dL_law_458 rfl ?_
      refine s_iadd (pc' := 460) dL_law_459 rfl ?_
      refine s_iald6 (pc' := 461) dL_law_460 z1 z103 z104 rfl ?_
      refine s_callV (pc' := 464) (av := [vI (h105 (-1) (a3 + 1)), vI (h105 (-1) (a3 + 2))]) (a := 65) (sk := [vI x106]) (kc := 9) dL_law_461 ml_L_61 okX9_price oiX9_price (by first | decide | exact Nat.le_of_ble_eq_true rfl | exact ⟨Nat.le_of_ble_eq_true rfl, Nat.le_of_ble_eq_true rfl⟩) (NF := 39) rfl (fa_t65 sA) rfl (Nat.le_of_ble_eq_true rfl) (Nat.le_refl 0) (Nat.le_refl 0) rfl (CI.on V (fun x108 h107 V => ?_))
      obtain ⟨e109, V⟩ := V
      refine s_icmp_same (pc' := 467) (tgt := 752) dL_law_464 rfl rfl e109 ?_
      refine s_iinc (pc' := 755) (ls' := [some (vR (-1)), some (vR 1), some (vR 65), some (vI (a3 + 6))]) dL_law_752 rfl (by first | decide | exact Nat.le_of_ble_eq_true rfl | exact ⟨Nat.le_of_ble_eq_true rfl, Nat.le_of_ble_eq_true rfl⟩) rfl rfl ?_
      refine s_goto (tgt := 18) dL_law_755 rfl ?_
      exact V
    have c10 := c
    by_cases c : (andZ (h (-1) a3) 31) = 11
    · have V := V118 c
      refine s_tableIn (v := 11) (tgt := 469) dL_law_33 c (by first | decide | exact Nat.le_of_ble_eq_true rfl | exact ⟨Nat.le_of_ble_eq_true rfl, Nat.le_of_ble_eq_true rfl⟩) (by first | decide | exact Nat.le_of_ble_eq_true rfl | exact ⟨Nat.le_of_ble_eq_true rfl, Nat.le_of_ble_eq_true rfl⟩) (by first | decide | exact Nat.le_of_ble_eq_true rfl | exact ⟨Nat.le_of_ble_eq_true rfl, Nat.le_of_ble_eq_true rfl⟩) rfl rfl ?_
      refine s_aload_n (pc' := 470) (x := 1) dL_law_469 rfl rfl ?_
      refine s_aload_n (pc' := 471) (x := (-1)) dL_law_470 rfl rfl ?_
      refine s_iload_n (pc' := 472) (x := a3) dL_law_471 rfl rfl ?_
      refine s_iconst (pc' := 473) dL_law_472 rfl ?_
      refine s_iadd (pc' := 474) dL_law_473 rfl ?_
      obtain ⟨z111, z112, V⟩ := V
      refine s_iald6 (pc' := 475) dL_law_474 z1 z111 z112 rfl ?_
      refine s_callV (pc' := 478) (av := [vI (h (-1) (a3 + 1))]) (a := 1) (sk := []) (kc := 8) dL_law_475 ml_L_62 okX8_proof oiX8_proof (by first | decide | exact Nat.le_of_ble_eq_true rfl | exact ⟨Nat.le_of_ble_eq_true rfl, Nat.le_of_ble_eq_true rfl⟩) (NF := 14) rfl (fa_t1 sA) rfl (Nat.le_of_ble_eq_true rfl) (Nat.le_refl 0) (Nat.le_refl 0) rfl (CI.on V (fun x114 h113 V => ?_))
      refine s_aload_n (pc' := 479) (x := 65) dL_law_478 rfl rfl ?_
      refine s_aload_n (pc' := 480) (x := (-1)) dL_law_479 rfl rfl ?_
      refine s_iload_n (pc' := 481) (x := a3) dL_law_480 rfl rfl ?_
      refine s_iconst (pc' := 482) dL_law_481 rfl ?_
      refine s_iadd (pc' := 483) dL_law_482 rfl ?_
      refine s_iald6 (pc' := 484) dL_law_483 z1 z111 z112 rfl ?_
      refine s_callV (pc' := 487) (av := [vI (h113 (-1) (a3 + 1))]) (a := 65) (sk := [vI x114]) (kc := 9) dL_law_484 ml_L_65 okX9_proof oiX9_proof (by first | decide | exact Nat.le_of_ble_eq_true rfl | exact ⟨Nat.le_of_ble_eq_true rfl, Nat.le_of_ble_eq_true rfl⟩) (NF := 39) rfl (fa_t65 sA) rfl (Nat.le_of_ble_eq_true rfl) (Nat.le_refl 0) (Nat.le_refl 0) rfl (CI.on V (fun x116 h115 V => ?_))
      obtain ⟨e117, V⟩ := V
      refine s_icmp_same (pc' := 490) (tgt := 752) dL_law_487 rfl rfl e117 ?_
      refine s_iinc (pc' := 755) (ls' := [some (vR (-1)), some (vR 1), some (vR 65), some (vI (a3 + 6))]) dL_law_752 rfl (by first | decide | exact Nat.le_of_ble_eq_true rfl | exact ⟨Nat.le_of_ble_eq_true rfl, Nat.le_of_ble_eq_true rfl⟩) rfl rfl ?_
      refine s_goto (tgt := 18) dL_law_755 rfl ?_
      exact V
    have c11 := c
    by_cases c : (andZ (h (-1) a3) 31) = 12
    · have V := V128 c
      refine s_tableIn (v := 12) (tgt := 492) dL_law_33 c (by first | decide | exact Nat.le_of_ble_eq_true rfl | exact ⟨Nat.le_of_ble_eq_true rfl, Nat.le_of_ble_eq_true rfl⟩) (by first | decide | exact Nat.le_of_ble_eq_true rfl | exact ⟨Nat.le_of_ble_eq_true rfl, Nat.le_of_ble_eq_true rfl⟩) (by first | decide | exact Nat.le_of_ble_eq_true rfl | exact ⟨Nat.le_of_ble_eq_true rfl, Nat.le_of_ble_eq_true rfl⟩) rfl rfl ?_
      refine s_aload_n (pc' := 493) (x := 1) dL_law_492 rfl rfl ?_
      refine s_aload_n (pc' := 494) (x := (-1)) dL_law_493 rfl rfl ?_
      refine s_iload_n (pc' := 495) (x := a3) dL_law_494 rfl rfl ?_
      refine s_iconst (pc' := 496) dL_law_495 rfl ?_
      refine s_iadd (pc' := 497) dL_law_496 rfl ?_
      obtain ⟨z119, z120, V⟩ := V
      refine s_iald6 (pc' := 498) dL_law_497 z1 z119 z120 rfl ?_
      refine s_aload_n (pc' := 499) (x := (-1)) dL_law_498 rfl rfl ?_
      refine s_iload_n (pc' := 500) (x := a3) dL_law_499 rfl rfl ?_
      refine s_iconst (pc' := 501) dL_law_500 rfl ?_
      refine s_iadd (pc' := 502) dL_law_501 rfl ?_
      obtain ⟨z121, z122, V⟩ := V
      refine s_iald6 (pc' := 503) dL_law_502 z1 z121 z122 rfl ?_
      refine s_callV (pc' := 506) (av := [vI (h (-1) (a3 + 1)), vI (h (-1) (a3 + 2))]) (a := 1) (sk := []) (kc := 8) dL_law_503 ml_L_66 okX8_answer oiX8_answer (by first | decide | exact Nat.le_of_ble_eq_true rfl | exact ⟨Nat.le_of_ble_eq_true rfl, Nat.le_of_ble_eq_true rfl⟩) (NF := 14) rfl (fa_t1 sA) rfl (Nat.le_of_ble_eq_true rfl) (Nat.le_refl 0) (Nat.le_refl 0) rfl (CI.on V (fun x124 h123 V => ?_))
      refine s_aload_n (pc' := 507) (x := 65) dL_law_506 rfl rfl ?_
      refine s_aload_n (pc' := 508) (x := (-1)) dL_law_507 rfl rfl ?_
      refine s_iload_n (pc' := 509) (x := a3) dL_law_508 rfl rfl ?_
      refine s_iconst (pc' := 510) dL_law_509 rfl ?_
      refine s_iadd (pc' := 511) dL_law_510 rfl ?_
      refine s_iald6 (pc' := 512) dL_law_511 z1 z119 z120 rfl ?_
      refine s_aload_n (pc' := 513) (x := (-1)) dL_law_512 rfl rfl ?_
      refine s_iload_n (pc' := 514) (x := a3) dL_law_513 rfl rfl ?_
      refine s_iconst (pc' := 515) dL_law_514 rfl ?_
      refine s_iadd (pc' := 516) dL_law_515 rfl ?_
      refine s_iald6 (pc' := 517) dL_law_516 z1 z121 z122 rfl ?_
      refine s_callV (pc' := 520) (av := [vI (h123 (-1) (a3 + 1)), vI (h123 (-1) (a3 + 2))]) (a := 65) (sk := [vI x124]) (kc := 9) dL_law_517 ml_L_69 okX9_answer oiX9_answer (by first | decide | exact Nat.le_of_ble_eq_true rfl | exact ⟨Nat.le_of_ble_eq_true rfl, Nat.le_of_ble_eq_true rfl⟩) (NF := 39) rfl (fa_t65 sA) rfl (Nat.le_of_ble_eq_true rfl) (Nat.le_refl 0) (Nat.le_refl 0) rfl (CI.on V (fun x126 h125 V => ?_))
      obtain ⟨e127, V⟩ := V
      refine s_icmp_same (pc' := 523) (tgt := 752) dL_law_520 rfl rfl e127 ?_
      refine s_iinc (pc' := 755) (ls' := [some (vR (-1)), some (vR 1), some (vR 65), some (vI (a3 + 6))]) dL_law_752 rfl (by first | decide | exact Nat.le_of_ble_eq_true rfl | exact ⟨Nat.le_of_ble_eq_true rfl, Nat.le_of_ble_eq_true rfl⟩) rfl rfl ?_
      refine s_goto (tgt := 18) dL_law_755 rfl ?_
      exact V
    have c12 := c
    by_cases c : (andZ (h (-1) a3) 31) = 13
    · have V := V136 c
      refine s_tableIn (v := 13) (tgt := 525) dL_law_33 c (by first | decide | exact Nat.le_of_ble_eq_true rfl | exact ⟨Nat.le_of_ble_eq_true rfl, Nat.le_of_ble_eq_true rfl⟩) (by first | decide | exact Nat.le_of_ble_eq_true rfl | exact ⟨Nat.le_of_ble_eq_true rfl, Nat.le_of_ble_eq_true rfl⟩) (by first | decide | exact Nat.le_of_ble_eq_true rfl | exact ⟨Nat.le_of_ble_eq_true rfl, Nat.le_of_ble_eq_true rfl⟩) rfl rfl ?_
      refine s_aload_n (pc' := 526) (x := 1) dL_law_525 rfl rfl ?_
      refine s_aload_n (pc' := 527) (x := (-1)) dL_law_526 rfl rfl ?_
      refine s_iload_n (pc' := 528) (x := a3) dL_law_527 rfl rfl ?_
      refine s_iconst (pc' := 529) dL_law_528 rfl ?_
      refine s_iadd (pc' := 530) dL_law_529 rfl ?_
      obtain ⟨z129, z130, V⟩ := V
      refine s_iald6 (pc' := 531) dL_law_530 z1 z129 z130 rfl ?_
      refine s_callV (pc' := 534) (av := [vI (h (-1) (a3 + 1))]) (a := 1) (sk := []) (kc := 8) dL_law_531 ml_L_70 okX8_rule oiX8_rule (by first | decide | exact Nat.le_of_ble_eq_true rfl | exact ⟨Nat.le_of_ble_eq_true rfl, Nat.le_of_ble_eq_true rfl⟩) (NF := 14) rfl (fa_t1 sA) rfl (Nat.le_of_ble_eq_true rfl) (Nat.le_refl 0) (Nat.le_refl 0) rfl (CI.on V (fun x132 h131 V => ?_))
      refine s_aload_n (pc' := 535) (x := 65) dL_law_534 rfl rfl ?_
      refine s_aload_n (pc' := 536) (x := (-1)) dL_law_535 rfl rfl ?_
      refine s_iload_n (pc' := 537) (x := a3) dL_law_536 rfl rfl ?_
      refine s_iconst (pc' := 538) dL_law_537 rfl ?_
      refine s_iadd (pc' := 539) dL_law_538 rfl ?_
      refine s_iald6 (pc' := 540) dL_law_539 z1 z129 z130 rfl ?_
      refine s_callV (pc' := 543) (av := [vI (h131 (-1) (a3 + 1))]) (a := 65) (sk := [vI x132]) (kc := 9) dL_law_540 ml_L_74 okX9_rule oiX9_rule (by first | decide | exact Nat.le_of_ble_eq_true rfl | exact ⟨Nat.le_of_ble_eq_true rfl, Nat.le_of_ble_eq_true rfl⟩) (NF := 39) rfl (fa_t65 sA) rfl (Nat.le_of_ble_eq_true rfl) (Nat.le_refl 0) (Nat.le_refl 0) rfl (CI.on V (fun x134 h133 V => ?_))
      obtain ⟨e135, V⟩ := V
      refine s_icmp_same (pc' := 546) (tgt := 752) dL_law_543 rfl rfl e135 ?_
      refine s_iinc (pc' := 755) (ls' := [some (vR (-1)), some (vR 1), some (vR 65), some (vI (a3 + 6))]) dL_law_752 rfl (by first | decide | exact Nat.le_of_ble_eq_true rfl | exact ⟨Nat.le_of_ble_eq_true rfl, Nat.le_of_ble_eq_true rfl⟩) rfl rfl ?_
      refine s_goto (tgt := 18) dL_law_755 rfl ?_
      exact V
    have c13 := c
    by_cases c : (andZ (h (-1) a3) 31) = 14
    · have V := V144 c
      refine s_tableIn (v := 14) (tgt := 548) dL_law_33 c (by first | decide | exact Nat.le_of_ble_eq_true rfl | exact ⟨Nat.le_of_ble_eq_true rfl, Nat.le_of_ble_eq_true rfl⟩) (by first | decide | exact Nat.le_of_ble_eq_true rfl | exact ⟨Nat.le_of_ble_eq_true rfl, Nat.le_of_ble_eq_true rfl⟩) (by first | decide | exact Nat.le_of_ble_eq_true rfl | exact ⟨Nat.le_of_ble_eq_true rfl, Nat.le_of_ble_eq_true rfl⟩) rfl rfl ?_
      refine s_aload_n (pc' := 549) (x := 1) dL_law_548 rfl rfl ?_
      refine s_aload_n (pc' := 550) (x := (-1)) dL_law_549 rfl rfl ?_
      refine s_iload_n (pc' := 551) (x := a3) dL_law_550 rfl rfl ?_
      refine s_iconst (pc' := 552) dL_law_551 rfl ?_
      refine s_iadd (pc' := 553) dL_law_552 rfl ?_
      obtain ⟨z137, z138, V⟩ := V
      refine s_iald6 (pc' := 554) dL_law_553 z1 z137 z138 rfl ?_
      refine s_callV (pc' := 557) (av := [vI (h (-1) (a3 + 1))]) (a := 1) (sk := []) (kc := 8) dL_law_554 ml_L_75 okX8_go oiX8_go (by first | decide | exact Nat.le_of_ble_eq_true rfl | exact ⟨Nat.le_of_ble_eq_true rfl, Nat.le_of_ble_eq_true rfl⟩) (NF := 14) rfl (fa_t1 sA) rfl (Nat.le_of_ble_eq_true rfl) (Nat.le_refl 0) (Nat.le_refl 0) rfl (CI.on V (fun x140 h139 V => ?_))
      refine s_aload_n (pc' := 558) (x := 65) dL_law_557 rfl rfl ?_
      refine s_aload_n (pc' := 559) (x := (-1)) dL_law_558 rfl rfl ?_
      refine s_iload_n (pc' := 560) (x := a3) dL_law_559 rfl rfl ?_
      refine s_iconst (pc' := 561) dL_law_560 rfl ?_
      refine s_iadd (pc' := 562) dL_law_561 rfl ?_
      refine s_iald6 (pc' := 563) dL_law_562 z1 z137 z138 rfl ?_
      refine s_callV (pc' := 566) (av := [vI (h139 (-1) (a3 + 1))]) (a := 65) (sk := [vI x140]) (kc := 9) dL_law_563 ml_L_78 okX9_go oiX9_go (by first | decide | exact Nat.le_of_ble_eq_true rfl | exact ⟨Nat.le_of_ble_eq_true rfl, Nat.le_of_ble_eq_true rfl⟩) (NF := 39) rfl (fa_t65 sA) rfl (Nat.le_of_ble_eq_true rfl) (Nat.le_refl 0) (Nat.le_refl 0) rfl (CI.on V (fun x142 h141 V => ?_))
      obtain ⟨e143, V⟩ := V
      refine s_icmp_same (pc' := 569) (tgt := 752) dL_law_566 rfl rfl e143 ?_
      refine s_iinc (pc' := 755) (ls' := [some (vR (-1)), some (vR 1), some (vR 65), some (vI (a3 + 6))]) dL_law_752 rfl (by first | decide | exact Nat.le_of_ble_eq_true rfl | exact ⟨Nat.le_of_ble_eq_true rfl, Nat.le_of_ble_eq_true rfl⟩) rfl rfl ?_
      refine s_goto (tgt := 18) dL_law_755 rfl ?_
      exact V
    have c14 := c
    by_cases c : (andZ (h (-1) a3) 31) = 15
    · have V := V152 c
      refine s_tableIn (v := 15) (tgt := 571) dL_law_33 c (by first | decide | exact Nat.le_of_ble_eq_true rfl | exact ⟨Nat.le_of_ble_eq_true rfl, Nat.le_of_ble_eq_true rfl⟩) (by first | decide | exact Nat.le_of_ble_eq_true rfl | exact ⟨Nat.le_of_ble_eq_true rfl, Nat.le_of_ble_eq_true rfl⟩) (by first | decide | exact Nat.le_of_ble_eq_true rfl | exact ⟨Nat.le_of_ble_eq_true rfl, Nat.le_of_ble_eq_true rfl⟩) rfl rfl ?_
      refine s_aload_n (pc' := 572) (x := 1) dL_law_571 rfl rfl ?_
      refine s_aload_n (pc' := 573) (x := (-1)) dL_law_572 rfl rfl ?_
      refine s_iload_n (pc' := 574) (x := a3) dL_law_573 rfl rfl ?_
      refine s_iconst (pc' := 575) dL_law_574 rfl ?_
      refine s_iadd (pc' := 576) dL_law_575 rfl ?_
      obtain ⟨z145, z146, V⟩ := V
      refine s_iald6 (pc' := 577) dL_law_576 z1 z145 z146 rfl ?_
      refine s_callV (pc' := 580) (av := [vI (h (-1) (a3 + 1))]) (a := 1) (sk := []) (kc := 8) dL_law_577 ml_L_79 okX8_ring oiX8_ring (by first | decide | exact Nat.le_of_ble_eq_true rfl | exact ⟨Nat.le_of_ble_eq_true rfl, Nat.le_of_ble_eq_true rfl⟩) (NF := 14) rfl (fa_t1 sA) rfl (Nat.le_of_ble_eq_true rfl) (Nat.le_refl 0) (Nat.le_refl 0) rfl (CI.on V (fun x148 h147 V => ?_))
      refine s_aload_n (pc' := 581) (x := 65) dL_law_580 rfl rfl ?_
      refine s_aload_n (pc' := 582) (x := (-1)) dL_law_581 rfl rfl ?_
      refine s_iload_n (pc' := 583) (x := a3) dL_law_582 rfl rfl ?_
      refine s_iconst (pc' := 584) dL_law_583 rfl ?_
      refine s_iadd (pc' := 585) dL_law_584 rfl ?_
      refine s_iald6 (pc' := 586) dL_law_585 z1 z145 z146 rfl ?_
      refine s_callV (pc' := 589) (av := [vI (h147 (-1) (a3 + 1))]) (a := 65) (sk := [vI x148]) (kc := 9) dL_law_586 ml_L_82 okX9_ring oiX9_ring (by first | decide | exact Nat.le_of_ble_eq_true rfl | exact ⟨Nat.le_of_ble_eq_true rfl, Nat.le_of_ble_eq_true rfl⟩) (NF := 39) rfl (fa_t65 sA) rfl (Nat.le_of_ble_eq_true rfl) (Nat.le_refl 0) (Nat.le_refl 0) rfl (CI.on V (fun x150 h149 V => ?_))
      obtain ⟨e151, V⟩ := V
      refine s_icmp_same (pc' := 592) (tgt := 752) dL_law_589 rfl rfl e151 ?_
      refine s_iinc (pc' := 755) (ls' := [some (vR (-1)), some (vR 1), some (vR 65), some (vI (a3 + 6))]) dL_law_752 rfl (by first | decide | exact Nat.le_of_ble_eq_true rfl | exact ⟨Nat.le_of_ble_eq_true rfl, Nat.le_of_ble_eq_true rfl⟩) rfl rfl ?_
      refine s_goto (tgt := 18) dL_law_755 rfl ?_
      exact V
    have c15 := c
    by_cases c : (andZ (h (-1) a3) 31) = 16
    · have V := V158 c
      refine s_tableIn (v := 16) (tgt := 594) dL_law_33 c (by first | decide | exact Nat.le_of_ble_eq_true rfl | exact ⟨Nat.le_of_ble_eq_true rfl, Nat.le_of_ble_eq_true rfl⟩) (by first | decide | exact Nat.le_of_ble_eq_true rfl | exact ⟨Nat.le_of_ble_eq_true rfl, Nat.le_of_ble_eq_true rfl⟩) (by first | decide | exact Nat.le_of_ble_eq_true rfl | exact ⟨Nat.le_of_ble_eq_true rfl, Nat.le_of_ble_eq_true rfl⟩) rfl rfl ?_
      refine s_aload_n (pc' := 595) (x := 1) dL_law_594 rfl rfl ?_
      refine s_callV (pc' := 598) (av := []) (a := 1) (sk := []) (kc := 8) dL_law_595 ml_L_83 okX8_now oiX8_now (by first | decide | exact Nat.le_of_ble_eq_true rfl | exact ⟨Nat.le_of_ble_eq_true rfl, Nat.le_of_ble_eq_true rfl⟩) (NF := 14) rfl (fa_t1 sA) rfl (Nat.le_of_ble_eq_true rfl) (Nat.le_refl 0) (Nat.le_refl 0) rfl (CI.on V (fun x154 h153 V => ?_))
      refine s_aload_n (pc' := 599) (x := 65) dL_law_598 rfl rfl ?_
      refine s_callV (pc' := 602) (av := []) (a := 65) (sk := [vI x154]) (kc := 9) dL_law_599 ml_L_86 okX9_now oiX9_now (by first | decide | exact Nat.le_of_ble_eq_true rfl | exact ⟨Nat.le_of_ble_eq_true rfl, Nat.le_of_ble_eq_true rfl⟩) (NF := 39) rfl (fa_t65 sA) rfl (Nat.le_of_ble_eq_true rfl) (Nat.le_refl 0) (Nat.le_refl 0) rfl (CI.on V (fun x156 h155 V => ?_))
      obtain ⟨e157, V⟩ := V
      refine s_icmp_same (pc' := 605) (tgt := 752) dL_law_602 rfl rfl e157 ?_
      refine s_iinc (pc' := 755) (ls' := [some (vR (-1)), some (vR 1), some (vR 65), some (vI (a3 + 6))]) dL_law_752 rfl (by first | decide | exact Nat.le_of_ble_eq_true rfl | exact ⟨Nat.le_of_ble_eq_true rfl, Nat.le_of_ble_eq_true rfl⟩) rfl rfl ?_
      refine s_goto (tgt := 18) dL_law_755 rfl ?_
      exact V
    have c16 := c
    by_cases c : (andZ (h (-1) a3) 31) = 17
    · have V := V166 c
      refine s_tableIn (v := 17) (tgt := 607) dL_law_33 c (by first | decide | exact Nat.le_of_ble_eq_true rfl | exact ⟨Nat.le_of_ble_eq_true rfl, Nat.le_of_ble_eq_true rfl⟩) (by first | decide | exact Nat.le_of_ble_eq_true rfl | exact ⟨Nat.le_of_ble_eq_true rfl, Nat.le_of_ble_eq_true rfl⟩) (by first | decide | exact Nat.le_of_ble_eq_true rfl | exact ⟨Nat.le_of_ble_eq_true rfl, Nat.le_of_ble_eq_true rfl⟩) rfl rfl ?_
      refine s_aload_n (pc' := 608) (x := 1) dL_law_607 rfl rfl ?_
      refine s_aload_n (pc' := 609) (x := (-1)) dL_law_608 rfl rfl ?_
      refine s_iload_n (pc' := 610) (x := a3) dL_law_609 rfl rfl ?_
      refine s_iconst (pc' := 611) dL_law_610 rfl ?_
      refine s_iadd (pc' := 612) dL_law_611 rfl ?_
      obtain ⟨z159, z160, V⟩ := V
      refine s_iald6 (pc' := 613) dL_law_612 z1 z159 z160 rfl ?_
      refine s_callV (pc' := 616) (av := [vI (h (-1) (a3 + 1))]) (a := 1) (sk := []) (kc := 8) dL_law_613 ml_L_87 okX8_hand oiX8_hand (by first | decide | exact Nat.le_of_ble_eq_true rfl | exact ⟨Nat.le_of_ble_eq_true rfl, Nat.le_of_ble_eq_true rfl⟩) (NF := 14) rfl (fa_t1 sA) rfl (Nat.le_of_ble_eq_true rfl) (Nat.le_refl 0) (Nat.le_refl 0) rfl (CI.on V (fun x162 h161 V => ?_))
      refine s_aload_n (pc' := 617) (x := 65) dL_law_616 rfl rfl ?_
      refine s_aload_n (pc' := 618) (x := (-1)) dL_law_617 rfl rfl ?_
      refine s_iload_n (pc' := 619) (x := a3) dL_law_618 rfl rfl ?_
      refine s_iconst (pc' := 620) dL_law_619 rfl ?_
      refine s_iadd (pc' := 621) dL_law_620 rfl ?_
      refine s_iald6 (pc' := 622) dL_law_621 z1 z159 z160 rfl ?_
      refine s_callV (pc' := 625) (av := [vI (h161 (-1) (a3 + 1))]) (a := 65) (sk := [vI x162]) (kc := 9) dL_law_622 ml_L_90 okX9_hand oiX9_hand (by first | decide | exact Nat.le_of_ble_eq_true rfl | exact ⟨Nat.le_of_ble_eq_true rfl, Nat.le_of_ble_eq_true rfl⟩) (NF := 39) rfl (fa_t65 sA) rfl (Nat.le_of_ble_eq_true rfl) (Nat.le_refl 0) (Nat.le_refl 0) rfl (CI.on V (fun x164 h163 V => ?_))
      obtain ⟨e165, V⟩ := V
      refine s_icmp_same (pc' := 628) (tgt := 752) dL_law_625 rfl rfl e165 ?_
      refine s_iinc (pc' := 755) (ls' := [some (vR (-1)), some (vR 1), some (vR 65), some (vI (a3 + 6))]) dL_law_752 rfl (by first | decide | exact Nat.le_of_ble_eq_true rfl | exact ⟨Nat.le_of_ble_eq_true rfl, Nat.le_of_ble_eq_true rfl⟩) rfl rfl ?_
      refine s_goto (tgt := 18) dL_law_755 rfl ?_
      exact V
    have c17 := c
    by_cases c : (andZ (h (-1) a3) 31) = 18
    · have V := V174 c
      refine s_tableIn (v := 18) (tgt := 630) dL_law_33 c (by first | decide | exact Nat.le_of_ble_eq_true rfl | exact ⟨Nat.le_of_ble_eq_true rfl, Nat.le_of_ble_eq_true rfl⟩) (by first | decide | exact Nat.le_of_ble_eq_true rfl | exact ⟨Nat.le_of_ble_eq_true rfl, Nat.le_of_ble_eq_true rfl⟩) (by first | decide | exact Nat.le_of_ble_eq_true rfl | exact ⟨Nat.le_of_ble_eq_true rfl, Nat.le_of_ble_eq_true rfl⟩) rfl rfl ?_
      refine s_aload_n (pc' := 631) (x := 1) dL_law_630 rfl rfl ?_
      refine s_aload_n (pc' := 632) (x := (-1)) dL_law_631 rfl rfl ?_
      refine s_iload_n (pc' := 633) (x := a3) dL_law_632 rfl rfl ?_
      refine s_iconst (pc' := 634) dL_law_633 rfl ?_
      refine s_iadd (pc' := 635) dL_law_634 rfl ?_
      obtain ⟨z167, z168, V⟩ := V
      refine s_iald6 (pc' := 636) dL_law_635 z1 z167 z168 rfl ?_
      refine s_callV (pc' := 639) (av := [vI (h (-1) (a3 + 1))]) (a := 1) (sk := []) (kc := 8) dL_law_636 ml_L_91 okX8_round oiX8_round (by first | decide | exact Nat.le_of_ble_eq_true rfl | exact ⟨Nat.le_of_ble_eq_true rfl, Nat.le_of_ble_eq_true rfl⟩) (NF := 14) rfl (fa_t1 sA) rfl (Nat.le_of_ble_eq_true rfl) (Nat.le_refl 0) (Nat.le_refl 0) rfl (CI.on V (fun x170 h169 V => ?_))
      refine s_aload_n (pc' := 640) (x := 65) dL_law_639 rfl rfl ?_
      refine s_aload_n (pc' := 641) (x := (-1)) dL_law_640 rfl rfl ?_
      refine s_iload_n (pc' := 642) (x := a3) dL_law_641 rfl rfl ?_
      refine s_iconst (pc' := 643) dL_law_642 rfl ?_
      refine s_iadd (pc' := 644) dL_law_643 rfl ?_
      refine s_iald6 (pc' := 645) dL_law_644 z1 z167 z168 rfl ?_
      refine s_callV (pc' := 648) (av := [vI (h169 (-1) (a3 + 1))]) (a := 65) (sk := [vI x170]) (kc := 9) dL_law_645 ml_L_94 okX9_round oiX9_round (by first | decide | exact Nat.le_of_ble_eq_true rfl | exact ⟨Nat.le_of_ble_eq_true rfl, Nat.le_of_ble_eq_true rfl⟩) (NF := 39) rfl (fa_t65 sA) rfl (Nat.le_of_ble_eq_true rfl) (Nat.le_refl 0) (Nat.le_refl 0) rfl (CI.on V (fun x172 h171 V => ?_))
      obtain ⟨e173, V⟩ := V
      refine s_icmp_same (pc' := 651) (tgt := 752) dL_law_648 rfl rfl e173 ?_
      refine s_iinc (pc' := 755) (ls' := [some (vR (-1)), some (vR 1), some (vR 65), some (vI (a3 + 6))]) dL_law_752 rfl (by first | decide | exact Nat.le_of_ble_eq_true rfl | exact ⟨Nat.le_of_ble_eq_true rfl, Nat.le_of_ble_eq_true rfl⟩) rfl rfl ?_
      refine s_goto (tgt := 18) dL_law_755 rfl ?_
      exact V
    have c18 := c
    by_cases c : (andZ (h (-1) a3) 31) = 19
    · have V := V182 c
      refine s_tableIn (v := 19) (tgt := 653) dL_law_33 c (by first | decide | exact Nat.le_of_ble_eq_true rfl | exact ⟨Nat.le_of_ble_eq_true rfl, Nat.le_of_ble_eq_true rfl⟩) (by first | decide | exact Nat.le_of_ble_eq_true rfl | exact ⟨Nat.le_of_ble_eq_true rfl, Nat.le_of_ble_eq_true rfl⟩) (by first | decide | exact Nat.le_of_ble_eq_true rfl | exact ⟨Nat.le_of_ble_eq_true rfl, Nat.le_of_ble_eq_true rfl⟩) rfl rfl ?_
      refine s_aload_n (pc' := 654) (x := 1) dL_law_653 rfl rfl ?_
      refine s_aload_n (pc' := 655) (x := (-1)) dL_law_654 rfl rfl ?_
      refine s_iload_n (pc' := 656) (x := a3) dL_law_655 rfl rfl ?_
      refine s_iconst (pc' := 657) dL_law_656 rfl ?_
      refine s_iadd (pc' := 658) dL_law_657 rfl ?_
      obtain ⟨z175, z176, V⟩ := V
      refine s_iald6 (pc' := 659) dL_law_658 z1 z175 z176 rfl ?_
      refine s_callV (pc' := 662) (av := [vI (h (-1) (a3 + 1))]) (a := 1) (sk := []) (kc := 8) dL_law_659 ml_L_95 okX8_roundAt oiX8_roundAt (by first | decide | exact Nat.le_of_ble_eq_true rfl | exact ⟨Nat.le_of_ble_eq_true rfl, Nat.le_of_ble_eq_true rfl⟩) (NF := 14) rfl (fa_t1 sA) rfl (Nat.le_of_ble_eq_true rfl) (Nat.le_refl 0) (Nat.le_refl 0) rfl (CI.on V (fun x178 h177 V => ?_))
      refine s_aload_n (pc' := 663) (x := 65) dL_law_662 rfl rfl ?_
      refine s_aload_n (pc' := 664) (x := (-1)) dL_law_663 rfl rfl ?_
      refine s_iload_n (pc' := 665) (x := a3) dL_law_664 rfl rfl ?_
      refine s_iconst (pc' := 666) dL_law_665 rfl ?_
      refine s_iadd (pc' := 667) dL_law_666 rfl ?_
      refine s_iald6 (pc' := 668) dL_law_667 z1 z175 z176 rfl ?_
      refine s_callV (pc' := 671) (av := [vI (h177 (-1) (a3 + 1))]) (a := 65) (sk := [vI x178]) (kc := 9) dL_law_668 ml_L_98 okX9_roundAt oiX9_roundAt (by first | decide | exact Nat.le_of_ble_eq_true rfl | exact ⟨Nat.le_of_ble_eq_true rfl, Nat.le_of_ble_eq_true rfl⟩) (NF := 39) rfl (fa_t65 sA) rfl (Nat.le_of_ble_eq_true rfl) (Nat.le_refl 0) (Nat.le_refl 0) rfl (CI.on V (fun x180 h179 V => ?_))
      obtain ⟨e181, V⟩ := V
      refine s_icmp_same (pc' := 674) (tgt := 752) dL_law_671 rfl rfl e181 ?_
      refine s_iinc (pc' := 755) (ls' := [some (vR (-1)), some (vR 1), some (vR 65), some (vI (a3 + 6))]) dL_law_752 rfl (by first | decide | exact Nat.le_of_ble_eq_true rfl | exact ⟨Nat.le_of_ble_eq_true rfl, Nat.le_of_ble_eq_true rfl⟩) rfl rfl ?_
      refine s_goto (tgt := 18) dL_law_755 rfl ?_
      exact V
    have c19 := c
    by_cases c : (andZ (h (-1) a3) 31) = 20
    · have V := V194 c
      refine s_tableIn (v := 20) (tgt := 676) dL_law_33 c (by first | decide | exact Nat.le_of_ble_eq_true rfl | exact ⟨Nat.le_of_ble_eq_true rfl, Nat.le_of_ble_eq_true rfl⟩) (by first | decide | exact Nat.le_of_ble_eq_true rfl | exact ⟨Nat.le_of_ble_eq_true rfl, Nat.le_of_ble_eq_true rfl⟩) (by first | decide | exact Nat.le_of_ble_eq_true rfl | exact ⟨Nat.le_of_ble_eq_true rfl, Nat.le_of_ble_eq_true rfl⟩) rfl rfl ?_
      refine s_aload_n (pc' := 677) (x := 1) dL_law_676 rfl rfl ?_
      refine s_aload_n (pc' := 678) (x := (-1)) dL_law_677 rfl rfl ?_
      refine s_iload_n (pc' := 679) (x := a3) dL_law_678 rfl rfl ?_
      refine s_iconst (pc' := 680) dL_law_679 rfl ?_
      refine s_iadd (pc' := 681) dL_law_680 rfl ?_
      obtain ⟨z183, z184, V⟩ := V
      refine s_iald6 (pc' := 682) dL_law_681 z1 z183 z184 rfl ?_
      refine s_aload_n (pc' := 683) (x := (-1)) dL_law_682 rfl rfl ?_
      refine s_iload_n (pc' := 684) (x := a3) dL_law_683 rfl rfl ?_
      refine s_iconst (pc' := 685) dL_law_684 rfl ?_
      refine s_iadd (pc' := 686) dL_law_685 rfl ?_
      obtain ⟨z185, z186, V⟩ := V
      refine s_iald6 (pc' := 687) dL_law_686 z1 z185 z186 rfl ?_
      refine s_aload_n (pc' := 688) (x := (-1)) dL_law_687 rfl rfl ?_
      refine s_iload_n (pc' := 689) (x := a3) dL_law_688 rfl rfl ?_
      refine s_iconst (pc' := 690) dL_law_689 rfl ?_
      refine s_iadd (pc' := 691) dL_law_690 rfl ?_
      obtain ⟨z187, z188, V⟩ := V
      refine s_iald6 (pc' := 692) dL_law_691 z1 z187 z188 rfl ?_
      refine s_callV (pc' := 695) (av := [vI (h (-1) (a3 + 1)), vI (h (-1) (a3 + 2)), vI (h (-1) (a3 + 3))]) (a := 1) (sk := []) (kc := 8) dL_law_692 ml_L_99 okX8_would oiX8_would (by first | decide | exact Nat.le_of_ble_eq_true rfl | exact ⟨Nat.le_of_ble_eq_true rfl, Nat.le_of_ble_eq_true rfl⟩) (NF := 14) rfl (fa_t1 sA) rfl (Nat.le_of_ble_eq_true rfl) (Nat.le_refl 0) (Nat.le_refl 0) rfl (CI.on V (fun x190 h189 V => ?_))
      refine s_aload_n (pc' := 696) (x := 65) dL_law_695 rfl rfl ?_
      refine s_aload_n (pc' := 697) (x := (-1)) dL_law_696 rfl rfl ?_
      refine s_iload_n (pc' := 698) (x := a3) dL_law_697 rfl rfl ?_
      refine s_iconst (pc' := 699) dL_law_698 rfl ?_
      refine s_iadd (pc' := 700) dL_law_699 rfl ?_
      refine s_iald6 (pc' := 701) dL_law_700 z1 z183 z184 rfl ?_
      refine s_aload_n (pc' := 702) (x := (-1)) dL_law_701 rfl rfl ?_
      refine s_iload_n (pc' := 703) (x := a3) dL_law_702 rfl rfl ?_
      refine s_iconst (pc' := 704) dL_law_703 rfl ?_
      refine s_iadd (pc' := 705) dL_law_704 rfl ?_
      refine s_iald6 (pc' := 706) dL_law_705 z1 z185 z186 rfl ?_
      refine s_aload_n (pc' := 707) (x := (-1)) dL_law_706 rfl rfl ?_
      refine s_iload_n (pc' := 708) (x := a3) dL_law_707 rfl rfl ?_
      refine s_iconst (pc' := 709) dL_law_708 rfl ?_
      refine s_iadd (pc' := 710) dL_law_709 rfl ?_
      refine s_iald6 (pc' := 711) dL_law_710 z1 z187 z188 rfl ?_
      refine s_callV (pc' := 714) (av := [vI (h189 (-1) (a3 + 1)), vI (h189 (-1) (a3 + 2)), vI (h189 (-1) (a3 + 3))]) (a := 65) (sk := [vI x190]) (kc := 9) dL_law_711 ml_L_103 okX9_would oiX9_would (by first | decide | exact Nat.le_of_ble_eq_true rfl | exact ⟨Nat.le_of_ble_eq_true rfl, Nat.le_of_ble_eq_true rfl⟩) (NF := 39) rfl (fa_t65 sA) rfl (Nat.le_of_ble_eq_true rfl) (Nat.le_refl 0) (Nat.le_refl 0) rfl (CI.on V (fun x192 h191 V => ?_))
      obtain ⟨e193, V⟩ := V
      refine s_icmp_same (pc' := 717) (tgt := 752) dL_law_714 rfl rfl e193 ?_
      refine s_iinc (pc' := 755) (ls' := [some (vR (-1)), some (vR 1), some (vR 65), some (vI (a3 + 6))]) dL_law_752 rfl (by first | decide | exact Nat.le_of_ble_eq_true rfl | exact ⟨Nat.le_of_ble_eq_true rfl, Nat.le_of_ble_eq_true rfl⟩) rfl rfl ?_
      refine s_goto (tgt := 18) dL_law_755 rfl ?_
      exact V
    have c20 := c
    by_cases c : (andZ (h (-1) a3) 31) = 21
    · have V := V204 c
      refine s_tableIn (v := 21) (tgt := 719) dL_law_33 c (by first | decide | exact Nat.le_of_ble_eq_true rfl | exact ⟨Nat.le_of_ble_eq_true rfl, Nat.le_of_ble_eq_true rfl⟩) (by first | decide | exact Nat.le_of_ble_eq_true rfl | exact ⟨Nat.le_of_ble_eq_true rfl, Nat.le_of_ble_eq_true rfl⟩) (by first | decide | exact Nat.le_of_ble_eq_true rfl | exact ⟨Nat.le_of_ble_eq_true rfl, Nat.le_of_ble_eq_true rfl⟩) rfl rfl ?_
      refine s_aload_n (pc' := 720) (x := 1) dL_law_719 rfl rfl ?_
      refine s_aload_n (pc' := 721) (x := (-1)) dL_law_720 rfl rfl ?_
      refine s_iload_n (pc' := 722) (x := a3) dL_law_721 rfl rfl ?_
      refine s_iconst (pc' := 723) dL_law_722 rfl ?_
      refine s_iadd (pc' := 724) dL_law_723 rfl ?_
      obtain ⟨z195, z196, V⟩ := V
      refine s_iald6 (pc' := 725) dL_law_724 z1 z195 z196 rfl ?_
      refine s_aload_n (pc' := 726) (x := (-1)) dL_law_725 rfl rfl ?_
      refine s_iload_n (pc' := 727) (x := a3) dL_law_726 rfl rfl ?_
      refine s_iconst (pc' := 728) dL_law_727 rfl ?_
      refine s_iadd (pc' := 729) dL_law_728 rfl ?_
      obtain ⟨z197, z198, V⟩ := V
      refine s_iald6 (pc' := 730) dL_law_729 z1 z197 z198 rfl ?_
      refine s_callV (pc' := 733) (av := [vI (h (-1) (a3 + 1)), vI (h (-1) (a3 + 2))]) (a := 1) (sk := []) (kc := 8) dL_law_730 ml_L_104 okX8_enough oiX8_enough (by first | decide | exact Nat.le_of_ble_eq_true rfl | exact ⟨Nat.le_of_ble_eq_true rfl, Nat.le_of_ble_eq_true rfl⟩) (NF := 14) rfl (fa_t1 sA) rfl (Nat.le_of_ble_eq_true rfl) (Nat.le_refl 0) (Nat.le_refl 0) rfl (CI.on V (fun x200 h199 V => ?_))
      refine s_aload_n (pc' := 734) (x := 65) dL_law_733 rfl rfl ?_
      refine s_aload_n (pc' := 735) (x := (-1)) dL_law_734 rfl rfl ?_
      refine s_iload_n (pc' := 736) (x := a3) dL_law_735 rfl rfl ?_
      refine s_iconst (pc' := 737) dL_law_736 rfl ?_
      refine s_iadd (pc' := 738) dL_law_737 rfl ?_
      refine s_iald6 (pc' := 739) dL_law_738 z1 z195 z196 rfl ?_
      refine s_aload_n (pc' := 740) (x := (-1)) dL_law_739 rfl rfl ?_
      refine s_iload_n (pc' := 741) (x := a3) dL_law_740 rfl rfl ?_
      refine s_iconst (pc' := 742) dL_law_741 rfl ?_
      refine s_iadd (pc' := 743) dL_law_742 rfl ?_
      refine s_iald6 (pc' := 744) dL_law_743 z1 z197 z198 rfl ?_
      refine s_callV (pc' := 747) (av := [vI (h199 (-1) (a3 + 1)), vI (h199 (-1) (a3 + 2))]) (a := 65) (sk := [vI x200]) (kc := 9) dL_law_744 ml_L_107 okX9_enough oiX9_enough (by first | decide | exact Nat.le_of_ble_eq_true rfl | exact ⟨Nat.le_of_ble_eq_true rfl, Nat.le_of_ble_eq_true rfl⟩) (NF := 39) rfl (fa_t65 sA) rfl (Nat.le_of_ble_eq_true rfl) (Nat.le_refl 0) (Nat.le_refl 0) rfl (CI.on V (fun x202 h201 V => ?_))
      obtain ⟨e203, V⟩ := V
      refine s_icmp_same (pc' := 750) (tgt := 752) dL_law_747 rfl rfl e203 ?_
      refine s_iinc (pc' := 755) (ls' := [some (vR (-1)), some (vR 1), some (vR 65), some (vI (a3 + 6))]) dL_law_752 rfl (by first | decide | exact Nat.le_of_ble_eq_true rfl | exact ⟨Nat.le_of_ble_eq_true rfl, Nat.le_of_ble_eq_true rfl⟩) rfl rfl ?_
      refine s_goto (tgt := 18) dL_law_755 rfl ?_
      exact V
    have c21 := c
    have co : (andZ (h (-1) a3) 31) < 0 ∨ 21 < (andZ (h (-1) a3) 31) := by omega
    have V := V205 co
    refine s_tableOut (tgt := 752) dL_law_33 z6 co rfl ?_
    refine s_iinc (pc' := 755) (ls' := [some (vR (-1)), some (vR 1), some (vR 65), some (vI (a3 + 6))]) dL_law_752 rfl (by first | decide | exact Nat.le_of_ble_eq_true rfl | exact ⟨Nat.le_of_ble_eq_true rfl, Nat.le_of_ble_eq_true rfl⟩) rfl rfl ?_
    refine s_goto (tgt := 18) dL_law_755 rfl ?_
    exact V
