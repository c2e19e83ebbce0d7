theorem XA_mono {M : MI} {pc : Nat} {ls : List (Option AV)} {sk : List AV} {w : WS} {h : AH} {k n : Nat} {Q Q' : Option AV → WS → AH → Prop} (K : XA M pc ls sk w h k n Q) (f : ∀ r w' h', Q r w' h' → Q' r w' h') : XA M pc ls sk w h k n Q' := by
  intro p l e s m args below meth c H locs cells slots mc ms E lsM C hk hn hR hL hls T hT X
  obtain ⟨t, a1, o, b1, b2, ⟨r, w', h', q1, q2, q3⟩, b4⟩ := K p l e s m args below meth c H locs cells slots mc ms E lsM C hk hn hR hL hls T hT X
  exact ⟨t, a1, o, b1, b2, ⟨r, w', h', q1, q2, f _ _ _ q3⟩, b4⟩
theorem S0_c : cN S0 = 0 := by rw [cN_eq S0_ok.1, show (S0 97).toNat = 0 by decide, inAll]
theorem S0_e : eU S0 0 = 0 := by have := eU_r S0 0; rw [S0_c] at this; omega
theorem LI_0 {w : WS} {h : AH} (sA : shA w) (B : hB h) (M : invM h S0 (g0 S0, fun _ => 0, cL S0, cW S0, fun _ => 0)) (e3 : h 65 3 = 0) (e4 : h 65 4 = 0) (e5 : h 65 5 = -1) (Qh : isQh h) : LI w h S0 (g0 S0, fun _ => 0, cL S0, cW S0, fun _ => 0) := by
  obtain ⟨b1, b2, b3, b4, b5, b6, b7, b8, b9, c1, c2, c3, c4, c5, c6, d2, d3, d4, d5, d6, d7, d8, d9, d10, d11⟩ := B
  have e96 : S0 96 = 0 := by decide
  have e97 : S0 97 = 0 := by decide
  have g00 : g0 S0 0 = 0 := S0_e
  have l22 : 0 ≤ wl w 22 := by rw [fa_cl21 sA]; decide
  have l46 : 0 ≤ wl w 46 := Int.natCast_nonneg _
  have ce : clsA S0 = [] := List.length_eq_zero_iff.mp (by have := S0_c; unfold cN at this; omega)
  refine ⟨⟨⟨by omega, fun i i0 i1 => by omega⟩, ⟨Or.inl ⟨b1, b2⟩, ?_⟩, ⟨⟨⟨?_, ?_⟩, fun k k0 k1 => ?_⟩, fun k k0 k1 => ?_⟩, ?_, fun p p0 p1 => ⟨c5 p p0 p1, Or.inl (c6 p)⟩, Or.inl b3, ⟨⟨⟨?_, ?_⟩, fun k k0 k1 => ?_⟩, ?_, d4, d5, d6, ?_, d8, d9, d10, Or.inl d2⟩, S0_iN, okH_0 S0_iN⟩, M, ⟨?_, fun i i0 i1 => by omega, ?_, ?_⟩, Qh⟩
  · rw [b1]
    exact ⟨b7, b8, b9, c1, c2, fun k k0 k1 => by omega, fun k k0 k1 => by omega⟩
  · rw [c3, S0_c]
  · rw [S0_c]; exact l22
  · rw [S0_c] at k1; omega
  · rw [S0_c] at k1; omega
  · unfold xO
    rw [ce]
    exact ⟨c4, fun i x hx => by simp at hx⟩
  · show h 45 4 = g0 S0 0
    rw [g00]; exact d11
  · show g0 S0 0 ≤ wl w 46
    rw [g00]; exact l46
  · have k2 : k < g0 S0 0 := k1
    rw [g00] at k2; omega
  · rw [d3]; exact S0_e.symm
  · rw [d7]; rfl
  · rw [e3, b6]
  · rw [e4, b4]
  · rw [e5, b5]
set_option maxRecDepth 20000 in
theorem law_start {w : WS} {h : AH} {nm : String} (hw : w.1 = 0) (tW : wt w (-1) = 6) (hl : wl w (-1) ≤ 3072) (tQ : wt w (-2) = 7) (lQ : wl w (-2) = 9) (hX : ∀ j, inR (h (-1) j)) (Qh : isQh h) : XA (mL_law nm) 0 [some (vR (-1)), none, none, none] [] w h 82 13035 (fun r _ _ => r = some (vI 1)) := by
  refine t_new (d := 1) (k := 81) (n := 13021) (pc' := 3) dL_law_0 clX8 ck_L_7 cn_8 ci_8 fdX8 rfl (by rw [hw]; rfl) (fun w1 h1 N => ?_)
  refine s_dup (pc' := 4) dL_law_3 (fun x q => by cases q) rfl ?_
  refine s_callI (N := mX8_init) (k1 := 63) (n1 := 7756) (av := []) (a := 1) (sk := [vR 1]) (pc' := 7) dL_law_4 ml_L_9 okX8_init onX8_init rfl rfl ⟨Nat.le_of_ble_eq_true rfl, Nat.le_of_ble_eq_true rfl⟩ (by decide) rfl (Nat.le_of_ble_eq_true rfl) (Nat.le_of_ble_eq_true rfl) (Nat.le_of_ble_eq_true rfl) rfl ((c_X8_init N.1 N.2.1 N.2.2.2.2.1).mono ?_)
  rintro r w2 h2 ⟨rfl, p1, p2, p3, p4, p5, p6⟩
  show XA (mL_law nm) 7 [some (vR (-1)), none, none, none] [vR 1] w2 h2 18 5265 _
  refine s_astore_n (pc' := 8) (ls' := [some (vR (-1)), some (vR 1), none, none]) dL_law_7 (Nat.le_of_ble_eq_true rfl) rfl rfl ?_
  refine t_new (d := 65) (k := 17) (n := 5226) (pc' := 11) dL_law_8 clX9 ck_L_10 cn_9 ci_9 fdX9 rfl (Eq.trans (congrArg (fun z : Int => z + 1) p1) rfl) (fun w3 h3 N3 => ?_)
  refine s_dup (pc' := 12) dL_law_11 (fun x q => by cases q) rfl ?_
  have m3 : sm w2 w3 (-2) 64 := sm_nw N3 (by decide)
  have lo : ∀ b, (b = -1 ∨ b = -2) → wt w3 b = wt w b ∧ wl w3 b = wl w b := fun b hb => by
    have a1 := m3 b (by omega) (by omega)
    have a2 := p2 b (by omega) (by omega)
    refine ⟨?_, ?_⟩
    · rw [a1.1, a2.1]; exact N.2.2.2.2.2.1 b (by omega)
    · unfold wl; rw [a1.2.1, a2.2.1, N.2.2.2.2.2.2.1 b (by omega)]
  refine s_callI (N := mX9_init) (k1 := 17) (n1 := 5226) (av := []) (a := 65) (sk := [vR 65]) (pc' := 15) dL_law_12 ml_L_12 okX9_init onX9_init rfl rfl ⟨Nat.le_of_ble_eq_true rfl, Nat.le_of_ble_eq_true rfl⟩ (by decide) rfl (Nat.le_of_ble_eq_true rfl) (Nat.le_of_ble_eq_true rfl) (Nat.le_of_ble_eq_true rfl) rfl ((c_X9_init N3.1 N3.2.1 N3.2.2.2.2.1 (shB0_s p4 (sm_le m3 (by decide) (by decide))) (shB1_s p5 (sm_le m3 (by decide) (by decide))) ⟨(lo (-2) (Or.inr rfl)).1.trans tQ, (lo (-2) (Or.inr rfl)).2.trans lQ⟩).mono ?_)
  rintro r w4 h4 ⟨rfl, sA, m4, M, y3, y4, y5, l4⟩
  show XA (mL_law nm) 15 [some (vR (-1)), some (vR 1), none, none] [vR 65] w4 h4 0 0 _
  refine s_astore_n (pc' := 16) (ls' := [some (vR (-1)), some (vR 1), some (vR 65), none]) dL_law_15 (Nat.le_of_ble_eq_true rfl) rfl rfl ?_
  refine s_iconst (pc' := 17) dL_law_16 rfl ?_
  refine s_istore_n (pc' := 18) (ls' := [some (vR (-1)), some (vR 1), some (vR 65), some (vI 0)]) dL_law_17 (Nat.le_of_ble_eq_true rfl) rfl rfl ?_
  have h42 : ∀ b, b < 65 → h4 b = h2 b := fun b hb => by
    rw [l4 b hb]; exact funext fun i => N3.2.2.2.2.2.2.2.2 b i (by omega)
  have eS : h4 (-1) = h (-1) := by
    rw [h42 _ (by decide)]
    exact funext fun i => (p3 i).1.trans (N.2.2.2.2.2.2.2.2 (-1) i (by decide))
  have eQ : h4 (-2) = h (-2) := by
    rw [h42 _ (by decide)]
    exact funext fun i => (p3 i).2.trans (N.2.2.2.2.2.2.2.2 (-2) i (by decide))
  have l1 : wl w4 (-1) = wl w (-1) := (wl_s m4 (by decide) (by decide)).trans (lo (-1) (Or.inl rfl)).2
  have t1 : wt w4 (-1) = 6 := ((m4 (-1) (by decide) (by decide)).1).trans ((lo (-1) (Or.inl rfl)).1.trans tW)
  have hB4 : hB h4 := by
    unfold hB
    rw [h42 1 (by decide), h42 2 (by decide), h42 3 (by decide), h42 5 (by decide), h42 21 (by decide), h42 55 (by decide), h42 26 (by decide), h42 39 (by decide), h42 44 (by decide), h42 45 (by decide)]
    exact p6
  have ll : 0 ≤ wl w4 (-1) := Int.natCast_nonneg _
  have K := law_loop (nm := nm) (X := h (-1)) sA t1 (by rw [l1]; exact hl) hX 512 0 h4 (by omega) ll (by omega) eS ⟨S0, _, LI_0 sA hB4 M y3 y4 y5 (by unfold isQh; rw [eQ]; exact Qh)⟩
  exact XA_mono K (fun r w' h' z => by obtain ⟨x, z1, z2, z3⟩ := z; rw [z1, z3])
