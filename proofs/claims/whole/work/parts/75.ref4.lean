section
variable {w : WS} {h : AH} {S F L W : Int → Int} {n : Int}
theorem c_X9_laysDearest {en : Int} (sA : shA w) (A : isAll h S) (okS : okS S) (R : isR h n F L W) (ok : okC n F L W) (hL : ∀ k, 0 ≤ k → k < n → L k ≤ S 98) (hen : en = 0 ∨ en = 1) : CV mX9_laysDearest [vR 65, vI en] w h (fun h' => dpS n F L (stpS n F W (S 99) (S 100) en) (S 98) (h' 65 12) (h' 73) ∧ (∀ b, b ≠ 65 → (b < 73 ∨ 76 < b) → h' b = h b) ∧ ∀ i, i ≠ 12 → h' 65 i = h 65 i) := by
  have l3 := okS.2.2.1
  -- along the nexts
  have fol : ∀ (h0 : AH) (T : tabM n F L (stpS n F W (S 99) (S 100) en) (S 98) h0 (-2)) (f0 : ∀ b, (b < 73 ∨ 73 + 3 < b) → h0 b = h b) (d : Nat) (x : Int) (h1 : AH), 301 ≤ pv (h1 73) (h1 65 12) + d → 0 ≤ h1 65 12 → (∀ i, 0 ≤ i → i < h1 65 12 → (h1 73 i = tN h0 73 (pv (h1 73) i) ∧ h1 73 i ≠ -1) ∧ pv (h1 73) i < h1 73 i ∧ h1 73 i ≤ 300) → (-1 ≤ pv (h1 73) (h1 65 12) ∧ pv (h1 73) (h1 65 12) ≤ S 98) → x = tN h0 73 (pv (h1 73) (h1 65 12)) → fV h0 h1 → XV mX9_laysDearest 37 [some (vR 65), none, some (vI x)] [] w h1 (fun h' => dpS n F L (stpS n F W (S 99) (S 100) en) (S 98) (h' 65 12) (h' 73) ∧ (∀ b, b ≠ 65 → (b < 73 ∨ 76 < b) → h' b = h b) ∧ ∀ i, i ≠ 12 → h' 65 i = h 65 i) := by
    intro h0 T f0 d
    have step : ∀ y, -1 ≤ y → y ≤ S 98 → tN h0 73 y = -1 ∨ (y < tN h0 73 y ∧ tN h0 73 y ≤ S 98) := by
      intro y y0 y1
      rcases (T y (by omega) y1).1 with ⟨-, -, -, q⟩ | ⟨dd, q1, q2, q3⟩
      · exact Or.inl q
      · right
        have a := q3.1
        have b : dd ≤ S 98 := by
          rcases q2 with q2 | ⟨⟨k, k1, k2⟩, -⟩
          · exact absurd q2.1 q1
          · have := hL k k1.1.1 k1.1.2; omega
        omega
    induction d with
    | zero => intro x h1 hd; intros; omega
    | succ d ih =>
      intro x h1 hd m0 hi hy hx hf
      have sp := step _ hy.1 hy.2
      rw [← hx] at sp
      have m1 := (okW_pv (m := h1 65 12) (t := h1 73) m0 (fun i i0 i1 => (hi i i0 i1).2)).1
      refine r_X9_laysDearest_37 sA ⟨by omega, fun c => ⟨⟨tC h0 73, tM h0 73, tN h0 73, fun q q0 q1 => (T q (by omega) q1).1, m0, fun i i0 i1 => (hi i i0 i1).1, by rw [← hx]; exact c⟩, fun b b1 b2 => (hf.1 b b1 (by omega)).trans (f0 b (by omega)), fun i hi => by rw [hf.2 i hi, f0 65 (by omega)]⟩, fun c => ?_⟩
      refine (c_X9_wakesAt sA (by omega)).mono ?_
      intro h2 e2
      obtain ⟨a1, a2, a3, a4, a5⟩ := addV e2
      have f2 : fV h0 h2 := fV_tr hf ⟨a4, a5⟩
      have ec : ∀ i, 0 ≤ i → i < h1 65 12 → h2 73 i = h1 73 i := fun i _ q => a3 i (by omega)
      have ep : pv (h2 73) (h2 65 12) = x := by
        unfold pv
        rw [a1, if_neg (by omega), show h1 65 12 + 1 - 1 = h1 65 12 by omega, a2]
      have e76 : h2 76 (x + 1) = tN h0 73 x := by
        rw [f2.1 76 (by decide) (by decide)]; rfl
      rw [e76]
      refine ⟨by omega, by omega, ih _ h2 (by rw [ep]; omega) (by omega) ?_ (by rw [ep]; omega) (by rw [ep]) f2⟩
      rw [a1]
      intro i i0 i1
      by_cases ei : i = h1 65 12
      · subst ei
        rw [a2, pv_congr ec]
        exact ⟨⟨hx, c⟩, by omega, by omega⟩
      · have := hi i i0 (by omega)
        rw [a3 i ei, pv_congr (fun j b0 b1 => ec j b0 (by omega))]
        exact this
  have key : ∀ (d : Nat) (p : Int) (h1 : AH), p + 2 = d → p ≤ S 98 → tabM n F L (stpS n F W (S 99) (S 100) en) (S 98) h1 p → (∀ b, (b < 73 ∨ 73 + 3 < b) → h1 b = h b) → XV mX9_laysDearest 8 [some (vR 65), some (vI en), some (vI p)] [] w h1 (fun h' => dpS n F L (stpS n F W (S 99) (S 100) en) (S 98) (h' 65 12) (h' 73) ∧ (∀ b, b ≠ 65 → (b < 73 ∨ 76 < b) → h' b = h b) ∧ ∀ i, i ≠ 12 → h' 65 i = h 65 i) := by
    intro d
    induction d with
    | zero =>
      intro p h1 hp p1 T hf
      refine r_X9_laysDearest_8 sA ⟨by omega, fun _ h2 e2 => ?_, fun c => absurd c (by omega)⟩
      have z : h2 65 12 = 0 := by rw [e2, st_same]
      have ep : pv (h2 73) (h2 65 12) = -1 := by unfold pv; rw [if_pos (by omega)]
      rw [show p = -2 by omega] at T
      exact fol h1 T hf 302 _ h2 (by rw [ep]; omega) (by omega) (fun i i0 i1 => by omega) (by rw [ep]; omega) (by rw [ep, e2, st_row _ _ _ (by decide)]; rfl) (by rw [e2]; exact fV_0)
    | succ d ih =>
      intro p h1 hp p1 T hf
      have A1 : isAll h1 S := fun j j0 j1 => by rw [hf 66 (by omega)]; exact A j j0 j1
      have R1 : isR h1 n F L W := isR_f R (by rw [hf 65 (by omega)]) (fun b b1 b2 => hf b (by omega))
      refine r_X9_laysDearest_8 sA ⟨by omega, fun c => absurd c (by omega), fun _ => (c_X9_laysBest sA A1 okS R1 ok hL hen (by omega) T).mono ?_⟩
      rintro h4 ⟨T4, f4⟩
      exact ih (p + -1) h4 (by omega) (by omega) T4 (fun b hb => (f4 b hb).trans (hf b hb))
  refine e_X9_laysDearest (r_X9_laysDearest_0 sA ?_)
  rw [A 98 (by omega) (by omega)]
  exact key (S 98 + 2).toNat (S 98) h (by omega) (Int.le_refl _) (fun q q0 q1 => by omega) (fun b _ => rfl)
theorem c_X9_waitsAll {m : Int} {t : Int → Int} (sA : shA w) (R : isR h n F L W) (ok : okC n F L W) (V : isV h m t) (okw : okW m t) : CI mX9_waitsAll [vR 65] w h (fun x h' => x = wts F W m t n.toNat ∧ h' = h) := by
  have n0 := ok.1
  have key : ∀ (d i : Nat), i + d = n.toNat → XI mX9_waitsAll 4 [some (vR 65), some (vI (wts F W m t i)), some (vI i)] [] w h (fun x h' => x = wts F W m t n.toNat ∧ h' = h) := by
    intro d
    induction d with
    | zero =>
      intro i hi
      refine r_X9_waitsAll_4 sA ?_
      rw [R.1]
      exact ⟨by omega, by omega, fun _ => ⟨by congr 1, rfl⟩, fun c => absurd c (by omega)⟩
    | succ d ih =>
      intro i hi
      refine r_X9_waitsAll_4 sA ?_
      obtain ⟨g1, g2, g3⟩ := R.2 i (by omega) (by omega)
      have b := (ok.2.1 i (by omega) (by omega)).1
      rw [R.1, g1, g3]
      refine ⟨by omega, by omega, fun c => absurd c (by omega), fun _ => ⟨by omega, by omega, (c_X9_answers sA V okw (by omega)).eq ?_⟩⟩
      intro y ey
      rw [g1] at ey
      have I := ih (i + 1) (by omega)
      rw [wts, ← ey] at I
      exact I
  exact e_X9_waitsAll (r_X9_waitsAll_0 sA (key n.toNat 0 (by omega)))
theorem c_X9_energy {m : Int} {t : Int → Int} (sA : shA w) (A : isAll h S) (okS : okS S) (V : isV h m t) (okw : okW m t) : CI mX9_energy [vR 65] w h (fun x h' => x = enI (S 99) (S 100) t m.toNat ∧ h' = h) := by
  have m0 := okw.1
  have key : ∀ (d i : Nat), i + d = m.toNat → XI mX9_energy 4 [some (vR 65), some (vI (enI (S 99) (S 100) t i)), some (vI i)] [] w h (fun x h' => x = enI (S 99) (S 100) t m.toNat ∧ h' = h) := by
    intro d
    induction d with
    | zero =>
      intro i hi
      refine r_X9_energy_4 sA ?_
      rw [V.1]
      exact ⟨by omega, by omega, fun _ => ⟨by congr 1, rfl⟩, fun c => absurd c (by omega)⟩
    | succ d ih =>
      intro i hi
      refine r_X9_energy_4 sA ?_
      have g1 := V.2 i (by omega) (by omega)
      have b := okw.2.1 i (by omega) (by omega)
      have I := ih (i + 1) (by omega)
      rw [V.1, g1]
      refine ⟨by omega, by omega, fun c => absurd c (by omega), fun _ => ⟨fun c => ⟨by omega, by omega, by omega, by omega, ?_⟩, fun c => ⟨by omega, by omega, ?_⟩⟩⟩
      · have g2 := V.2 ((i : Int) - 1) (by omega) (by omega)
        have b2 := okw.2.1 ((i : Int) - 1) (by omega) (by omega)
        have b3 := okw.2.2 ((i : Int) - 1) i (by omega) (by omega) (by omega)
        rw [g2]
        refine (c_X9_stay sA A okS (by omega) (by omega) (by omega)).eq ?_
        rw [if_neg (by omega)]
        rw [enI, if_neg (by omega)] at I
        exact I
      · refine (c_X9_stay sA A okS (by omega) (by omega) (by omega)).eq ?_
        rw [if_pos rfl]
        rw [enI, if_pos (by omega)] at I
        exact I
  exact e_X9_energy (r_X9_energy_0 sA (key m.toNat 0 (by omega)))
theorem awk_r {P Sy : Int} (hP : 0 ≤ P ∧ P ≤ 99) (hS : 0 ≤ Sy) : 0 ≤ awk P Sy ∧ awk P Sy ≤ 300 := by
  unfold awk
  split
  · omega
  · have a := Int.ediv_nonneg hP.1 hS
    have b := Int.ediv_le_self Sy hP.1
    omega
theorem c_X9_liveEnergy {m : Int} {t : Int → Int} (sA : shA w) (A : isAll h S) (okS : okS S) (V : isV h m t) (okw : okW m t) : CI mX9_liveEnergy [vR 65] w h (fun x h' => x = lvE (S 99) (S 100) (S 98) m t ∧ h' = h) := by
  have m0 := okw.1
  have l3 := okS.2.2.1
  have l4 := okS.2.2.2.1
  have l5 := okS.2.2.2.2.1
  have aw := awk_r (P := S 99) (Sy := S 100) (by omega) l5.1
  have a8 := A 98 (by omega) (by omega)
  have a9 := A 99 (by omega) (by omega)
  have a0 := A 100 (by omega) (by omega)
  have key : ∀ (d i : Nat), i + d = m.toNat → XI mX9_liveEnergy 4 [some (vR 65), some (vI (lvI (S 99) (S 100) t i)), some (vI i), none] [] w h (fun x h' => x = lvE (S 99) (S 100) (S 98) m t ∧ h' = h) := by
    intro d
    induction d with
    | zero =>
      intro i hi
      refine r_X9_liveEnergy_4 sA ?_
      rw [V.1, a8, a9, a0]
      have ei : m.toNat = i := by omega
      refine ⟨by omega, by omega, fun _ => ⟨fun c => ⟨by omega, by omega, fun y ey => ⟨by omega, by omega, ?_⟩⟩, fun c => ⟨by rw [lvE, if_pos c], rfl⟩⟩, fun c => absurd c (by omega)⟩
      have b := okw.2.1 (m - 1) (by omega) (by omega)
      rw [V.2 (m - 1) (by omega) (by omega)] at ey
      refine ⟨by omega, by omega, fun c2 => ⟨?_, rfl⟩, fun c2 => ⟨?_, rfl⟩⟩
      · rw [lvE, if_neg c, ei, show min (S 98 - t (m - 1)) (awk (S 99) (S 100)) = awk (S 99) (S 100) by omega]
      · rw [lvE, if_neg c, ei, show min (S 98 - t (m - 1)) (awk (S 99) (S 100)) = y by omega]
    | succ d ih =>
      intro i hi
      have g1 := V.2 i (by omega) (by omega)
      have b := okw.2.1 i (by omega) (by omega)
      have I := ih (i + 1) (by omega)
      refine r_X9_liveEnergy_4 sA ?_
      rw [V.1, g1, a8, a9, a0]
      refine ⟨by omega, by omega, fun c => absurd c (by omega), fun _ => ⟨fun c => ⟨by omega, by omega, by omega, by omega, fun y ey => ?_⟩, fun c => ⟨by omega, by omega, fun y ey => ?_⟩⟩⟩
      · have g2 := V.2 ((i : Int) - 1) (by omega) (by omega)
        have b2 := okw.2.1 ((i : Int) - 1) (by omega) (by omega)
        rw [g2] at ey
        refine r_X9_liveEnergy_41 sA ?_
        rw [a9, a0]
        refine ⟨by omega, fun _ => ⟨by omega, by omega, by omega, by omega, fun c2 z ez => r_X9_liveEnergy_101 sA ?_, fun c2 => r_X9_liveEnergy_101 sA ?_⟩, fun c2 => absurd c2 c⟩
        · rw [lvI, if_neg (by omega), lvS, if_neg (by omega), ← ez] at I; exact I
        · rw [lvI, if_neg (by omega), lvS, if_pos (by omega), ← ey] at I; exact I
      · refine r_X9_liveEnergy_41 sA ?_
        rw [a9, a0]
        refine ⟨by omega, fun c2 => absurd c c2, fun _ => r_X9_liveEnergy_101 sA ?_⟩
        rw [lvI, if_pos (by omega)] at I; exact I
  exact e_X9_liveEnergy (r_X9_liveEnergy_0 sA (key m.toNat 0 (by omega)))
theorem c_X9_longestWait {m : Int} {t : Int → Int} (sA : shA w) (R : isR h n F L W) (ok : okC n F L W) (V : isV h m t) (okw : okW m t) (kp : kept n F L m t) : CI mX9_longestWait [vR 65] w h (fun x h' => x = lwt F m t n.toNat ∧ h' = h) := by
  have n0 := ok.1
  have key : ∀ (d i : Nat), i + d = n.toNat → XI mX9_longestWait 4 [some (vR 65), some (vI (lwt F m t i)), some (vI i)] [] w h (fun x h' => x = lwt F m t n.toNat ∧ h' = h) := by
    intro d
    induction d with
    | zero =>
      intro i hi
      refine r_X9_longestWait_4 sA ?_
      rw [R.1]
      exact ⟨by omega, by omega, fun _ => ⟨by congr 1, rfl⟩, fun c => absurd c (by omega)⟩
    | succ d ih =>
      intro i hi
      refine r_X9_longestWait_4 sA ?_
      obtain ⟨g1, g2, g3⟩ := R.2 i (by omega) (by omega)
      have b := (ok.2.1 i (by omega) (by omega)).1
      have k := kp i (by omega) (by omega)
      have lr := lwt_r okw ok kp i (by omega)
      have I := ih (i + 1) (by omega)
      rw [R.1, g1]
      refine ⟨by omega, by omega, fun c => absurd c (by omega), fun _ => ⟨by omega, by omega, (c_X9_answers sA V okw (by omega)).eq ?_⟩⟩
      rw [g1]
      refine ⟨by omega, by omega, fun c => ?_, fun c => (c_X9_answers sA V okw (by omega)).eq ?_⟩
      · rw [lwt, show max (lwt F m t i) (an m t (F i) - F i) = lwt F m t i by omega] at I; exact I
      · rw [g1]
        rw [lwt, show max (lwt F m t i) (an m t (F i) - F i) = an m t (F i) - F i by omega] at I; exact I
  exact e_X9_longestWait (r_X9_longestWait_0 sA (key n.toNat 0 (by omega)))
/-- the most of the first j wakes -/
theorem c_X9_mostAnswered {m : Int} {t : Int → Int} (sA : shA w) (R : isR h n F L W) (ok : okC n F L W) (V : isV h m t) (okw : okW m t) (kp : kept n F L m t) : CI mX9_mostAnswered [vR 65] w h (fun x h' => mostA F m t n x ∧ h' = h) := by
  have n0 := ok.1
  have m0 := okw.1
  have inner : ∀ (a : Int) (j : Nat) (Q : Int → AH → Prop), (j : Int) < m → (0 ≤ a ∧ a ≤ n) → (XI mX9_mostAnswered 4 [some (vR 65), some (vI (max a (cntA F m t (t j) n.toNat))), some (vI ((j : Int) + 1)), none, none] [] w h Q) → ∀ (d i : Nat), i + d = n.toNat → XI mX9_mostAnswered 17 [some (vR 65), some (vI a), some (vI j), some (vI (cntA F m t (t j) i)), some (vI i)] [] w h Q := by
    intro a j Q hj ha K d
    induction d with
    | zero =>
      intro i hi
      have ei : n.toNat = i := by omega
      have cr := cntA_r (F := F) (m := m) (t := t) (t j) i
      rw [ei] at K
      refine r_X9_mostAnswered_17 sA ?_
      rw [R.1]
      refine ⟨by omega, by omega, fun _ => ⟨by omega, by omega, fun c => ?_, fun c => ?_⟩, fun c => absurd c (by omega)⟩
      · rw [show max a (cntA F m t (t j) i) = a by omega] at K; exact K
      · rw [show max a (cntA F m t (t j) i) = cntA F m t (t j) i by omega] at K; exact K
    | succ d ih =>
      intro i hi
      refine r_X9_mostAnswered_17 sA ?_
      obtain ⟨g1, g2, g3⟩ := R.2 i (by omega) (by omega)
      have b := (ok.2.1 i (by omega) (by omega)).1
      have k := kp i (by omega) (by omega)
      have bt := okw.2.1 j (by omega) hj
      have I := ih (i + 1) (by omega)
      rw [R.1, g1]
      refine ⟨by omega, by omega, fun c => absurd c (by omega), fun _ => ⟨by omega, by omega, (c_X9_answers sA V okw (by omega)).eq ?_⟩⟩
      rw [V.2 j (by omega) hj]
      refine ⟨by omega, by omega, by omega, by omega, fun c => ?_, fun c => ?_⟩
      · rw [cntA, if_neg c] at I; exact I
      · rw [cntA, if_pos c] at I; exact I
  have key : ∀ (d j : Nat) (a : Int), j + d = m.toNat → (0 ≤ a ∧ a ≤ n) → (∀ i : Nat, i < j → cntA F m t (t i) n.toNat ≤ a) → (a = 0 ∨ ∃ i : Nat, i < j ∧ cntA F m t (t i) n.toNat = a) → XI mX9_mostAnswered 4 [some (vR 65), some (vI a), some (vI j), none, none] [] w h (fun x h' => mostA F m t n x ∧ h' = h) := by
    intro d
    induction d with
    | zero =>
      intro j a hj ha h1 h2
      refine r_X9_mostAnswered_4 sA ?_
      rw [V.1]
      refine ⟨by omega, by omega, fun _ => ⟨⟨fun k k0 k1 => ?_, ?_⟩, rfl⟩, fun c => absurd c (by omega)⟩
      · rcases an_ex m t (F k) m0.1 with ⟨e, -⟩ | ⟨p, p0, p1, p2, -⟩
        · have := kp k k0 k1
          have := (ok.2.1 k k0 k1).1
          omega
        · have := h1 p.toNat (by omega)
          rw [show ((p.toNat : Nat) : Int) = p by omega] at this
          rw [p2]; exact this
      · by_cases nz : n = 0
        · left
          refine ⟨nz, ?_⟩
          rcases h2 with h2 | ⟨i, i1, i2⟩
          · exact h2
          · rw [nz] at i2; exact i2.symm
        · right
          -- some call is answered
          have hk : ∃ k, 0 ≤ k ∧ k < n ∧ a ≤ cntA F m t (an m t (F k)) n.toNat := by
            rcases h2 with h2 | ⟨i, i1, i2⟩
            · have := cntA_r (F := F) (m := m) (t := t) (an m t (F 0)) n.toNat
              exact ⟨0, by omega, by omega, by omega⟩
            · by_cases az : a = 0
              · have := cntA_r (F := F) (m := m) (t := t) (an m t (F 0)) n.toNat
                exact ⟨0, by omega, by omega, by omega⟩
              · have hex : ∃ q : Nat, q < n.toNat ∧ an m t (F q) = t i := by
                  apply Classical.byContradiction
                  intro no
                  have := cntA_none (F := F) (m := m) (t := t) (x := t i) n.toNat (fun q hq e => no ⟨q, hq, e⟩)
                  omega
                obtain ⟨q, q1, q2⟩ := hex
                exact ⟨q, by omega, by omega, by rw [q2, i2]; exact Int.le_refl _⟩
          obtain ⟨k, k0, k1, k2⟩ := hk
          refine ⟨k, k0, k1, ?_⟩
          rcases an_ex m t (F k) m0.1 with ⟨e, -⟩ | ⟨p, p0, p1, p2, -⟩
          · have := kp k k0 k1
            have := (ok.2.1 k k0 k1).1
            omega
          · have := h1 p.toNat (by omega)
            rw [show ((p.toNat : Nat) : Int) = p by omega, ← p2] at this
            omega
    | succ d ih =>
      intro j a hj ha h1 h2
      refine r_X9_mostAnswered_4 sA ?_
      rw [V.1]
      refine ⟨by omega, by omega, fun c => absurd c (by omega), fun _ => ?_⟩
      have cr := cntA_r (F := F) (m := m) (t := t) (t j) n.toNat
      refine inner a j _ (by omega) ha ?_ n.toNat 0 (by omega)
      refine ih (j + 1) _ (by omega) (by omega) (fun i hi => ?_) ?_
      · by_cases e : i = j
        · rw [e]; omega
        · have := h1 i (by omega); omega
      · by_cases c : cntA F m t (t j) n.toNat ≤ a
        · rw [show max a (cntA F m t (t j) n.toNat) = a by omega]
          rcases h2 with h2 | ⟨i, i1, i2⟩
          · exact Or.inl h2
          · exact Or.inr ⟨i, by omega, i2⟩
        · exact Or.inr ⟨j, by omega, by omega⟩
  exact e_X9_mostAnswered (r_X9_mostAnswered_0 sA (key m.toNat 0 0 (by omega) (by omega) (fun i hi => by omega) (Or.inl rfl)))
end
