section
variable {w : WS} {h h' : AH} {S : Int → Int} {q : HS}
def goC (S : Int → Int) (q : HS) (n : Int) : Prop := (1 ≤ n ∧ n ≤ 300) ∧ q.1 9 ≤ S 98
theorem c_X8_go {n : Int} (sA : shA w) (I : invQ w h S q) (hn : inR n) : CI mX8_go [vR 1, vI n] w h (fun x h' => frX h h' ∧ ((goC S q n ∧ x = (goHS S n.toNat q).2 ∧ invQ w h' S (goHS S n.toNat q).1) ∨ (¬ goC S q n ∧ x = -1 ∧ h' = h))) := by
  have key : ∀ (d : Nat) (q1 : HS) (a i : Int) (h1 : AH), goC S q n → i + d = n → 0 ≤ i → n ≤ 300 → invQ w h1 S q1 → frX h h1 → a + (goHS S d q1).2 = (goHS S n.toNat q).2 → (goHS S d q1).1 = (goHS S n.toNat q).1 → XI mX8_go 25 [some (vR 1), some (vI n), some (vI a), some (vI i)] [] w h1 (fun x h' => frX h h' ∧ ((goC S q n ∧ x = (goHS S n.toNat q).2 ∧ invQ w h' S (goHS S n.toNat q).1) ∨ (¬ goC S q n ∧ x = -1 ∧ h' = h))) := by
    intro d
    induction d with
    | zero =>
      intro q1 a i h1 hc hi i0 n3 I1 f1 e1 e2
      refine r_X8_go_25 sA ⟨by omega, by omega, fun _ => ⟨f1, Or.inl ⟨hc, ?_, ?_⟩⟩, fun c => absurd c (by omega)⟩
      · rw [goHS] at e1; omega
      · rw [← e2]; exact I1
    | succ d ih =>
      intro q1 a i h1 hc hi i0 n3 I1 f1 e1 e2
      rw [goHS] at e1 e2
      refine r_X8_go_25 sA ⟨by omega, by omega, fun c => absurd c (by omega), fun _ => (c_X8_handEnded sA I1).eq ?_⟩
      by_cases c : q1.1 9 ≤ S 98
      · rw [if_neg (show ¬ S 98 < q1.1 9 by omega)] at e1 e2
        obtain ⟨iT, iS, iC, iO, iP, iR, iH, iN, iK⟩ := id I1
        rw [if_pos c]
        refine ⟨by omega, fun c2 => absurd rfl c2, fun _ => ⟨(fa_so sA iS).1, ?_⟩⟩
        rw [iS.2.2.2.2.1]
        refine (c_pass sA I1 c).mono ?_
        rintro x h2 ⟨ex, I2, f2⟩
        have xr : x = 0 ∨ x = 1 := by
          rw [ex]; unfold wokeHS; split
          · exact Or.inr rfl
          · exact Or.inl rfl
        dsimp only at e1 e2
        refine ⟨by omega, fun c2 => ?_, fun c2 => ?_⟩
        · exact ih _ a (i + 1) h2 hc (by omega) (by omega) n3 I2 (frX_tr f1 f2) (by omega) e2
        · exact ih _ (a + 1) (i + 1) h2 hc (by omega) (by omega) n3 I2 (frX_tr f1 f2) (by omega) e2
      · rw [if_pos (show S 98 < q1.1 9 by omega)] at e1 e2
        rw [if_neg c]
        refine ⟨by omega, fun _ => ⟨f1, Or.inl ⟨hc, ?_, ?_⟩⟩, fun c2 => absurd c2 (by decide)⟩
        · dsimp only at e1; omega
        · rw [← e2]; exact I1
  have no : ¬ goC S q n → frX h h ∧ ((goC S q n ∧ (-1 : Int) = (goHS S n.toNat q).2 ∧ invQ w h S (goHS S n.toNat q).1) ∨ (¬ goC S q n ∧ (-1 : Int) = -1 ∧ h = h)) := fun z => ⟨frX_rfl h, Or.inr ⟨z, rfl, rfl⟩⟩
  refine e_X8_go (r_X8_go_0 sA ⟨hn, fun c => no (fun z => by have := z.1; omega), fun c => ⟨fun c2 => no (fun z => by have := z.1; omega), fun c2 => (c_X8_handEnded sA I).eq ?_⟩⟩)
  by_cases c3 : q.1 9 ≤ S 98
  · rw [if_pos c3]
    refine ⟨by omega, fun _ => key n.toNat q 0 0 h ⟨by omega, c3⟩ (by omega) (by omega) (by omega) I (frX_rfl h) (by omega) rfl, fun c4 => absurd rfl c4⟩
  · rw [if_neg c3]
    exact ⟨by omega, fun c4 => absurd c4 (by decide), fun _ => no (fun z => c3 z.2)⟩
theorem c_X8_rule {r : Int} (sA : shA w) (I : invQ w h S q) (hr : inR r) : CI mX8_rule [vR 1, vI r] w h (fun x h' => frX h h' ∧ (((0 ≤ r ∧ r ≤ 2 ∧ r ≠ q.1 10) ∧ x = 1 ∧ invQ w h' S (ruleHS r q)) ∨ (¬ (0 ≤ r ∧ r ≤ 2 ∧ r ≠ q.1 10) ∧ x = 0 ∧ h' = h))) := by
  obtain ⟨iT, iS, iC, iO, iP, iR, iH, iN, iK⟩ := id I
  obtain ⟨z1, z2, z3, z4, z5, z6, z7, z8, z9, z10⟩ := id iH
  have k9 := iK.2.2.2.2.2.2.2.2.1
  refine e_X8_rule (r_X8_rule_0 sA ?_)
  rw [z9]
  refine ⟨hr, fun c => ⟨frX_rfl h, Or.inr ⟨by omega, rfl, rfl⟩⟩, fun c => ⟨fun c2 => ⟨frX_rfl h, Or.inr ⟨by omega, rfl, rfl⟩⟩, fun c2 => ⟨by omega, fun c3 => ?_, fun c3 => ⟨frX_rfl h, Or.inr ⟨by omega, rfl, rfl⟩⟩⟩⟩⟩
  have ui : ∀ i, i ≠ 10 → up q.1 10 r i = q.1 i := fun i hi => up_o _ _ hi
  have si : ∀ i, i ≠ 10 → st h 44 10 r 44 i = h 44 i := fun i hi => st_slot _ _ _ _ hi
  have so : ∀ b, b ≠ 44 → st h 44 10 r b = h b := fun b hb => st_row _ _ _ hb
  have H : xHq w (st h 44 10 r) S (ruleHS r q) := by
    show xH w (st h 44 10 r) S (up q.1 10 r) q.2.1 q.2.2.1 q.2.2.2.1 q.2.2.2.2
    unfold xH
    rw [ui 0 (by decide), ui 4 (by decide), ui 5 (by decide), ui 6 (by decide), ui 8 (by decide), ui 9 (by decide), up_s, si 2 (by decide), si 3 (by decide), si 4 (by decide), si 5 (by decide), si 6 (by decide), si 7 (by decide), si 8 (by decide), si 9 (by decide), st_same, so 50 (by decide), so 51 (by decide)]
    exact ⟨isC_frame z1 (fun b b1 b2 => so b (by omega)), z2, z3, z4, z5, z6, z7, z8, rfl, z10⟩
  have R := inv_hand I (fun b hb => so b (by omega)) H (rule_ok iK (by omega))
  exact ⟨R.2, Or.inl ⟨by omega, rfl, R.1⟩⟩
theorem c_X8_now (sA : shA w) (I : invQ w h S q) : CI mX8_now [vR 1] w h (fun x h' => frX h h' ∧ ((q.1 5 < q.1 0 ∧ x = q.1 0 - q.1 5 ∧ invQ w h' S (wakeHS q)) ∨ (¬ q.1 5 < q.1 0 ∧ x = -1 ∧ h' = h))) := by
  obtain ⟨iT, iS, iC, iO, iP, iR, iH, iN, iK⟩ := id I
  obtain ⟨z1, z2, z3, z4, z5, z6, z7, z8, z9, z10⟩ := id iH
  obtain ⟨k1, k2, k3, k4, k5, k6, k7, k8, k9, k10, k11, k12⟩ := id iK
  have l3 := iN.1.2.2.1
  have e45 : h (44 + 1) 4 = q.1 0 := z1.1.1
  have n0 := k1.1
  refine e_X8_now (r_X8_now_0 sA ?_)
  rw [e45, z4]
  refine ⟨by omega, fun c => ?_, fun c => ⟨frX_rfl h, Or.inr ⟨by omega, rfl, rfl⟩⟩⟩
  refine (c_X1_wakeHere (fa_hand sA) z1 k1 (by omega) (by omega)).mono ?_
  intro h2 e2
  rw [z8, z4] at e2
  have H := xH_wake iH iK
  rw [← e2] at H
  have R := inv_hand I (fun b hb => by rw [e2]; exact (wakeH_f h 44 _ _).2.2.2.2.2 b (by omega)) H (wake_ok iK (by omega))
  exact ⟨R.2, Or.inl ⟨by omega, rfl, R.1⟩⟩
def rngC (S : Int → Int) (q : HS) (k : Int) : Prop := (0 ≤ k ∧ k < S 96) ∧ q.1 9 ≤ S 98 ∧ q.1 4 < 100
theorem c_X8_ring {k : Int} (sA : shA w) (I : invQ w h S q) (hk : inR k) : CI mX8_ring [vR 1, vI k] w h (fun x h' => frX h h' ∧ ((rngC S q k ∧ x = min (q.1 9 + slk S k) (S 98) ∧ invQ w h' S (ringHS S k q)) ∨ (¬ rngC S q k ∧ x = -1 ∧ h' = h))) := by
  obtain ⟨iT, iS, iC, iO, iP, iR, iH, iN, iK⟩ := id I
  obtain ⟨z1, z2, z3, z4, z5, z6, z7, z8, z9, z10⟩ := id iH
  obtain ⟨k1, k2, k3, k4, k5, k6, k7, k8, k9, k10, k11, k12⟩ := id iK
  have hs := fa_so sA iS
  have k96 := iN.1.1
  have l3 := iN.1.2.2.1
  have n2 := iN.2
  have r0 := eU_r S (q.1 9)
  have no : ¬ rngC S q k → frX h h ∧ ((rngC S q k ∧ (-1 : Int) = min (q.1 9 + slk S k) (S 98) ∧ invQ w h S (ringHS S k q)) ∨ (¬ rngC S q k ∧ (-1 : Int) = -1 ∧ h = h)) := fun z => ⟨frX_rfl h, Or.inr ⟨z, rfl, rfl⟩⟩
  refine e_X8_ring (r_X8_ring_0 sA ?_)
  rw [iS.2.1]
  refine ⟨hs.1, hk, by omega, fun c => no (fun z => c z.1), fun c => (c_X8_handEnded sA I).eq ?_⟩
  by_cases c3 : q.1 9 ≤ S 98
  · rw [if_pos c3, z3, z8]
    refine ⟨by omega, fun c4 => absurd rfl c4, fun _ => ⟨by omega, fun c5 => ⟨hs.1, (c_X5_slackOf hs iS.2 iN.1 (Or.inr c)).eq ?_⟩, fun c5 => no (fun z => c5 z.2.2)⟩⟩
    have sl := slk_r iN.1 c.1 c.2
    rw [iS.2.2.2.1]
    refine ⟨hs.1, by omega, by omega, ?_⟩
    intro y ey
    refine (c_X5_weightOf hs iS.2 iN.1 (Or.inr c)).eq ?_
    refine (c_X1_addRung (n := q.1 0) (fa_hand sA) z1.1.1 (by omega) (by omega) (by omega)).mono ?_
    intro h2 e2
    rw [z7, z8] at e2
    have ra : ∀ b, (b < 44 ∨ 49 < b) → rungH h 44 (q.1 0) y (wgt S k) b = h b := fun b hb => by
      unfold rungH
      rw [st_row _ _ _ (by omega), st_row _ _ _ (by omega), st_row _ _ _ (by omega), st_row _ _ _ (by omega), st_row _ _ _ (by omega), st_row _ _ _ (by omega), st_row _ _ _ (by omega)]
    have ri : ∀ i, i ≠ 2 → i ≠ 4 → rungH h 44 (q.1 0) y (wgt S k) 44 i = h 44 i := fun i i2 i4 => by
      unfold rungH
      rw [st_slot _ _ _ _ i2, st_slot _ _ _ _ i4, st_cell _ _ _ _ (by decide), st_cell _ _ _ _ (by decide), st_cell _ _ _ _ (by decide), st_cell _ _ _ _ (by decide), st_cell _ _ _ _ (by decide)]
    have r2 : rungH h 44 (q.1 0) y (wgt S k) 44 2 = 0 := st_same _ _ _ _
    have r4 : rungH h 44 (q.1 0) y (wgt S k) 44 4 = q.1 4 + 1 := by
      unfold rungH
      rw [st_slot _ _ _ _ (by decide), st_same, z3]
    have rC : isC w (rungH h 44 (q.1 0) y (wgt S k)) 45 (q.1 0 + 1) (up q.2.1 (q.1 0) (q.1 9)) (up q.2.2.1 (q.1 0) y) (up q.2.2.2.1 (q.1 0) (wgt S k)) := by
      have cap : wl w (44 + 1 + 1) = 300 := (fa_hand sA).2.2.2.2.2.1
      have := isC_add (x := h 44 9) (y := y) (z := wgt S k) (t := -1) (F' := up q.2.1 (q.1 0) (q.1 9)) (L' := up q.2.2.1 (q.1 0) y) (W' := up q.2.2.2.1 (q.1 0) (wgt S k)) z1 (show q.1 0 < wl w (44 + 1 + 1) by rw [cap]; omega) k1.1.1 (fun j j0 j1 => ⟨up_o _ _ (by omega), up_o _ _ (by omega), up_o _ _ (by omega)⟩) ⟨by rw [up_s, z8], up_s _ _ _, up_s _ _ _⟩
      refine isC_frame (c := 45) this (fun b b1 b2 => ?_)
      unfold rungH
      rw [st_row _ _ _ (by omega), st_row _ _ _ (by omega), z1.1.1]
      rfl
    obtain ⟨e0, e4, e5, e6, e8, e9, e10⟩ := ringG_at q S k
    have hF : (ringHS S k q).2.1 = up q.2.1 (q.1 0) (q.1 9) := rfl
    have hL : (ringHS S k q).2.2.1 = up q.2.2.1 (q.1 0) y := by rw [ey]; rfl
    have hW : (ringHS S k q).2.2.2.1 = up q.2.2.2.1 (q.1 0) (wgt S k) := rfl
    have hA : (ringHS S k q).2.2.2.2 = up q.2.2.2.2 (q.1 0) (q.1 9) := rfl
    have wa : ∀ m : Nat, (m : Int) ≤ q.1 0 → wAt (up q.2.1 (q.1 0) (q.1 9)) (up q.2.2.2.1 (q.1 0) (wgt S k)) (up q.2.2.2.2 (q.1 0) (q.1 9)) m = wAt q.2.1 q.2.2.2.1 q.2.2.2.2 m := fun m hm => wAt_cg m (fun j hj => ⟨up_o _ _ (by omega), up_o _ _ (by omega), up_o _ _ (by omega)⟩)
    have ko := ring_ok iN iK c c3 c5
    by_cases d : q.1 8 = q.1 9
    · rw [if_pos d] at e2 e5
      have si : ∀ i, i ≠ 5 → h2 44 i = rungH h 44 (q.1 0) y (wgt S k) 44 i := fun i hi => by rw [e2, st_slot _ _ _ _ hi]
      have so : ∀ b, b ≠ 44 → h2 b = rungH h 44 (q.1 0) y (wgt S k) b := fun b hb => by rw [e2, st_row _ _ _ hb]
      have H : xHq w h2 S (ringHS S k q) := by
        unfold xHq xH
        rw [e0, e4, e5, e6, e8, e9, e10, hF, hL, hW, hA, si 2 (by decide), si 3 (by decide), si 4 (by decide), si 6 (by decide), si 7 (by decide), si 8 (by decide), si 9 (by decide), si 10 (by decide), r2, r4, ri 3 (by decide) (by decide), ri 6 (by decide) (by decide), ri 7 (by decide) (by decide), ri 8 (by decide) (by decide), ri 9 (by decide) (by decide), ri 10 (by decide) (by decide)]
        refine ⟨isC_frame rC (fun b b1 b2 => so b (by omega)), z2, rfl, by rw [e2, st_same], z5, ?_, z7, z8, z9, Or.inl rfl⟩
        have := k10 d
        rw [z6, show (q.1 0 + 1).toNat = (q.1 0).toNat + 1 by omega, wAt, wa _ (by omega), show (((q.1 0).toNat : Nat) : Int) = q.1 0 by omega, up_s, up_s, up_s, Int.sub_self, Int.mul_zero, this, Int.add_zero]
      have R := inv_hand I (fun b hb => (so b (by omega)).trans (ra b (by omega))) H ko
      exact ⟨R.2, Or.inl ⟨⟨c, c3, c5⟩, ey, R.1⟩⟩
    · rw [if_neg d] at e2 e5
      have H : xHq w h2 S (ringHS S k q) := by
        unfold xHq xH
        rw [e0, e4, e5, e6, e8, e9, e10, hF, hL, hW, hA, e2, r2, r4, ri 3 (by decide) (by decide), ri 5 (by decide) (by decide), ri 6 (by decide) (by decide), ri 7 (by decide) (by decide), ri 8 (by decide) (by decide), ri 9 (by decide) (by decide), ri 10 (by decide) (by decide)]
        exact ⟨rC, z2, rfl, z4, z5, by rw [z6, wa _ (by omega)], z7, z8, z9, Or.inl rfl⟩
      have R := inv_hand I (fun b hb => by rw [e2]; exact ra b (by omega)) H ko
      exact ⟨R.2, Or.inl ⟨⟨c, c3, c5⟩, ey, R.1⟩⟩
  · rw [if_neg c3]
    exact ⟨by omega, fun _ => no (fun z => c3 z.2.1), fun c4 => absurd c4 (by decide)⟩
theorem c_X8_hand {a : Int} (sA : shA w) (I : invQ w h S q) (ha : inR a) : CI mX8_hand [vR 1, vI a] w h (fun x h' => hanA S q a x ∧ invQ w h' S q ∧ frX h h') := by
  obtain ⟨iT, iS, iC, iO, iP, iR, iH, iN, iK⟩ := id I
  obtain ⟨z1, z2, z3, z4, z5, z6, z7, z8, z9, z10⟩ := id iH
  obtain ⟨k1, k2, k3, k4, k5, k6, k7, k8, k9, k10, k11, k12⟩ := id iK
  have hs := fa_so sA iS
  have ho := xS_o iS
  have l3 := iN.1.2.2.1
  have e45 : h (44 + 1) 4 = q.1 0 := z1.1.1
  have stay : ∀ x, hanA S q a x → hanA S q a x ∧ invQ w h S q ∧ frX h h := fun x hx => ⟨hx, I, frX_rfl h⟩
  have hind := c_X1_hindsight (S := S) (fa_hand sA) (fa_plan sA) hs z1 k1 iS.2 iN.1 (fun k k0 k1 => (k2 k k0 k1).1) (by exact z10) (by omega) (by omega) (by omega)
  have hinv : ∀ h14 : AH, ((h14 44 2 = 1 ∧ planS (q.1 0) q.2.1 q.2.2.1 q.2.2.2.1 S 1 (h14 (44 + 6) 1) (h14 (44 + 7)) ∧ h14 (44 + 6) 1 ≤ q.1 0) ∧ (∀ i, i ≠ 2 → h14 44 i = h 44 i) ∧ ∀ b, (b < 40 ∨ 40 + 3 < b) → b ≠ 44 → b ≠ 44 + 6 → b ≠ 44 + 7 → h14 b = h b) → invQ w h14 S q ∧ frX h h14 := by
    rintro h14 ⟨m1, m2, m3⟩
    refine inv_hand I (fun b hb => m3 b (by omega) (by omega) (by omega) (by omega)) ?_ iK
    unfold xHq xH
    rw [m2 3 (by decide), m2 4 (by decide), m2 5 (by decide), m2 6 (by decide), m2 7 (by decide), m2 8 (by decide), m2 9 (by decide), m2 10 (by decide)]
    exact ⟨isC_frame z1 (fun b b1 b2 => m3 b (by omega) (by omega) (by omega) (by omega)), z2, z3, z4, z5, z6, z7, z8, z9, Or.inr m1⟩
  refine e_X8_hand (r_X8_hand_0 sA ?_)
  rw [e45, z4, z5, z6, z7, iS.2.2.2.2.1]
  refine ⟨ha, fun d => stay _ ⟨fun _ => rfl, ?_, ?_, ?_, ?_, ?_, ?_, ?_, ?_, ?_⟩, fun d => stay _ ⟨?_, fun _ => rfl, ?_, ?_, ?_, ?_, ?_, ?_, ?_, ?_⟩, fun d => stay _ ⟨?_, ?_, fun _ => rfl, ?_, ?_, ?_, ?_, ?_, ?_, ?_⟩, fun d => ⟨hs.1, stay _ ⟨?_, ?_, ?_, fun _ => rfl, ?_, ?_, ?_, ?_, ?_, ?_⟩⟩, fun d => ?_, fun d => ?_, fun d => stay _ ⟨?_, ?_, ?_, ?_, ?_, ?_, fun _ => rfl, ?_, ?_, ?_⟩, fun d => ?_, fun d => ?_, fun d => stay _ ⟨?_, ?_, ?_, ?_, ?_, ?_, ?_, ?_, ?_, fun _ => rfl⟩⟩
  case refine_37 =>
    refine (c_X1_openWaits (fa_hand sA) z1 k1 (by omega) (by omega)).eq (stay _ ⟨?_, ?_, ?_, ?_, fun _ => by rw [z8, z4], ?_, ?_, ?_, ?_, ?_⟩) <;> (intro z; omega)
  case refine_38 =>
    refine (c_X1_openLatest (fa_hand sA) z1 k1 (by omega)).mono ?_
    rintro x h1 ⟨q1, rfl⟩
    rw [z4] at q1
    refine stay _ ⟨?_, ?_, ?_, ?_, ?_, fun _ => ((mnF_iff k1 k5.1 k5.2 (Int.le_refl _)).mp q1).symm, ?_, ?_, ?_, ?_⟩ <;> (intro z; omega)
  case refine_48 =>
    refine hind.mono ?_
    rintro x h14 ⟨rfl, m⟩
    obtain ⟨I2, f2⟩ := hinv h14 m
    obtain ⟨jT, jS, jC, jO, jP, jR, jH, jN, jK⟩ := id I2
    have okw := planS_okW k1 iN.1 (fun k k0 k1 => (k2 k k0 k1).1) m.1.2.1
    have kp := planS_kept k1 iN.1 (fun k k0 k1 => (k2 k k0 k1).1) m.1.2.1
    have cap : wl w (44 + 7) = 300 := (fa_hand sA).2.2.2.2.2.2
    have n0 := k1.1
    have iw : isW w h14 (44 + 6) (h14 (44 + 6) 1) (h14 (44 + 7)) := ⟨⟨rfl, okw.1.1, by rw [show (44 : Int) + 6 + 1 = 44 + 7 from rfl, cap]; have := m.1.2.2; omega⟩, fun k _ _ => rfl⟩
    refine ⟨(fa_so sA jS).1, ?_⟩
    rw [jS.2.2.2.2.1]
    refine (c_X1_costOf (fa_hand sA) (fa_hand sA).2.2.2.2.1 iw okw jH.1 k1 kp).eq ⟨⟨?_, ?_, ?_, ?_, ?_, ?_, ?_, fun _ => ⟨_, _, m.1.2.1, m.1.2.2, rfl⟩, ?_, ?_⟩, I2, f2⟩ <;> (intro z; omega)
  case refine_49 =>
    refine hind.mono ?_
    rintro x h14 ⟨rfl, m⟩
    obtain ⟨I2, f2⟩ := hinv h14 m
    refine ⟨(fa_hand sA).2.2.2.2.1.1, ⟨?_, ?_, ?_, ?_, ?_, ?_, ?_, ?_, fun _ => ⟨_, _, m.1.2.1, m.1.2.2, rfl⟩, ?_⟩, I2, f2⟩ <;> (intro z; omega)
  all_goals (intro z; omega)
end
