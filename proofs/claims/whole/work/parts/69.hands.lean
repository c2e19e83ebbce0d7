def xHq (w : WS) (h : AH) (S : Int → Int) (q : HS) : Prop := xH w h S q.1 q.2.1 q.2.2.1 q.2.2.2.1 q.2.2.2.2
/-- the answers by hand -/
def hanA (S : Int → Int) (q : HS) (a x : Int) : Prop :=
  (a = 0 → x = q.1 0) ∧ (a = 1 → x = q.1 0 - q.1 5) ∧ (a = 2 → x = q.1 6) ∧ (a = 3 → x = S 99 * q.1 6 + wAt q.2.1 q.2.2.2.1 q.2.2.2.2 (q.1 5).toNat) ∧ (a = 4 → x = wsum q.2.1 q.2.2.2.1 (q.1 9) (q.1 0 - q.1 5).toNat (q.1 5)) ∧ (a = 5 → x = mnF q.2.2.1 (q.1 5) (q.1 0 - q.1 5).toNat) ∧ (a = 6 → x = q.1 8) ∧
  (a = 7 → ∃ m t, planS (q.1 0) q.2.1 q.2.2.1 q.2.2.2.1 S 1 m t ∧ m ≤ q.1 0 ∧ x = S 99 * m + wts q.2.1 q.2.2.2.1 m t (q.1 0).toNat) ∧ (a = 8 → ∃ m t, planS (q.1 0) q.2.1 q.2.2.1 q.2.2.2.1 S 1 m t ∧ m ≤ q.1 0 ∧ x = m) ∧ ((a < 0 ∨ 8 < a) → x = -1)
section
variable {w : WS} {h h' : AH} {S : Int → Int} {q q' : HS}
theorem inv_hand (I : invQ w h S q) (f : ∀ b, (b < 40 ∨ 51 < b) → h' b = h b) (H : xHq w h' S q') (K : okHq S q') : invQ w h' S q' ∧ frX h h' := by
  obtain ⟨iT, iS, iC, iO, iP, iR, iH, iN, iK⟩ := id I
  exact ⟨⟨xT_f iT (f 3 (by omega)) (f 4 (by omega)), xS_f iS ⟨by rw [f 1 (by omega)], by rw [f 1 (by omega)]⟩ (fun b b1 b2 => f b (by omega)), xC_f iC (fun b b1 b2 => f b (by omega)), xO_f iO (fun b b1 => f b (by omega)), xP_f iP (fun b b1 b2 => f b (by omega)), xR_f iR (by rw [f 1 (by omega)]) (fun b b1 b2 => f b (by omega)), H, iN, K⟩, frX_of (fun b hb => f b (by omega))⟩
theorem xH_wake (H : xHq w h S q) (K : okHq S q) : xHq w (wakeH h 44 (wsum q.2.1 q.2.2.2.1 (q.1 9) (q.1 0 - q.1 5).toNat (q.1 5)) (q.1 0)) S (wakeHS q) := by
  obtain ⟨g, F, L, W, At⟩ := q
  obtain ⟨z1, z2, z3, z4, z5, z6, z7, z8, z9, z10⟩ := H
  obtain ⟨k1, k2, k3, k4, k5, k6, k7, k8, k9, k10, k11, k12⟩ := K
  dsimp only at *
  obtain ⟨f5, f6, f7, f8, fi, fo⟩ := wakeH_f h 44 (wsum F W (g 9) (g 0 - g 5).toNat (g 5)) (g 0)
  obtain ⟨e0, e4, e5, e6, e8, e9, e10⟩ := wakeG_at g
  show xH w (wakeH h 44 (wsum F W (g 9) (g 0 - g 5).toNat (g 5)) (g 0)) S (wakeG g) F L W (ap (g 5) At (fun _ => g 9))
  unfold xH
  rw [e0, e4, e5, e6, e8, e9, e10, f5, f6, f7, f8, fi 3 (by decide) (by decide) (by decide) (by decide), fi 4 (by decide) (by decide) (by decide) (by decide), fi 9 (by decide) (by decide) (by decide) (by decide), fi 10 (by decide) (by decide) (by decide) (by decide), fi 2 (by decide) (by decide) (by decide) (by decide), fo 50 (by decide), fo 51 (by decide)]
  refine ⟨isC_frame z1 (fun b b1 b2 => fo b (by omega)), z2, z3, rfl, by rw [z5], ?_, z8, z8, z9, z10⟩
  rw [z6]
  have := wAt_wake (F := F) (W := W) (At := At) (u := g 9) (g 5).toNat (g 0 - g 5).toNat
  rw [show (g 5).toNat + (g 0 - g 5).toNat = (g 0).toNat by omega, show (((g 5).toNat : Nat) : Int) = g 5 by omega] at this
  exact this.symm
theorem xH_come {e : Int} (iN : okS S ∧ cN S ≤ 200) (H : xHq w h S q) (K : okHq S q) (C : came w (tick1 h 44) h' 44 (q.1 0) (cN S) (eU S (q.1 9)) e q.2.1 q.2.2.1 q.2.2.2.1 (cF S) (cL S) (cW S)) (ce : e = cN S ∨ cF S e ≠ q.1 9 + 1) : xHq w h' S (comeHS S q) := by
  obtain ⟨g, F, L, W, At⟩ := q
  obtain ⟨z1, z2, z3, z4, z5, z6, z7, z8, z9, z10⟩ := H
  obtain ⟨k1, k2, k3, k4, k5, k6, k7, k8, k9, k10, k11, k12⟩ := K
  dsimp only at *
  obtain ⟨t9, ti, to⟩ := tick1_f h 44
  obtain ⟨c1, c2, c3, c4, c5, c6, c7, c8⟩ := C
  have r0 := eU_r S (g 9)
  obtain ⟨okc, hL⟩ := inv_ok iN
  have ee : e = eU S (g 9 + 1) := by
    refine eU_one iN.1 (by omega) (by omega) c1.2 (fun k k0 k1 => ?_) (fun k k0 k1 => ?_)
    · by_cases c : k < eU S (g 9)
      · have := (eU_iff iN.1 (u := g 9) (by omega) k0 (by omega)).mp c; omega
      · have := c2 k (by omega) k1; rw [t9, z8] at this; omega
    · rcases ce with ce | ce
      · omega
      · have m := okc.2.2 e k (by omega) k0 k1
        have : ¬ cF S e ≤ g 9 := fun z => by
          have := (eU_iff iN.1 (u := g 9) (by omega) (by omega) (by omega)).mpr z
          omega
        omega
  subst ee
  have j : ∀ i, i ≠ 2 → i ≠ 3 → i ≠ 9 → h' 44 i = h 44 i := fun i i2 i3 i9 => by rw [c7 i i2 i3, ti i i9]
  have j9 : h' 44 9 = g 9 + 1 := by rw [c7 9 (by decide) (by decide), t9, z8]
  have j50 : h' 50 = h 50 := by rw [c8 50 (by decide), to 50 (by decide)]
  have j51 : h' 51 = h 51 := by rw [c8 51 (by decide), to 51 (by decide)]
  unfold comeHS
  dsimp only
  split
  · next c =>
    have ui : ∀ i, i ≠ 9 → up g 9 (g 9 + 1) i = g i := fun i hi => up_o _ _ hi
    have u9 : up g 9 (g 9 + 1) 9 = g 9 + 1 := up_s _ _ _
    show xH w h' S (up g 9 (g 9 + 1)) F L W At
    unfold xH
    rw [u9, ui 0 (by decide), ui 4 (by decide), ui 5 (by decide), ui 6 (by decide), ui 8 (by decide), ui 10 (by decide), j 4 (by decide) (by decide) (by decide), j 5 (by decide) (by decide) (by decide), j 6 (by decide) (by decide) (by decide), j 7 (by decide) (by decide) (by decide), j 8 (by decide) (by decide) (by decide), j 10 (by decide) (by decide) (by decide), j9, j50, j51, c5 c, ti 2 (by decide)]
    exact ⟨isC_cg c4 (by omega) (fun k k0 k1 => by rw [ap_lt k1, ap_lt k1, ap_lt k1]; exact ⟨rfl, rfl, rfl⟩), c3, z3, z4, z5, z6, z7, rfl, z9, z10⟩
  · next c =>
    have ui : ∀ i, i ≠ 9 → i ≠ 0 → up (up g 9 (g 9 + 1)) 0 (g 0 + (eU S (g 9 + 1) - eU S (g 9))) i = g i := fun i hi h0 => by rw [up_o _ _ h0, up_o _ _ hi]
    have u9 : up (up g 9 (g 9 + 1)) 0 (g 0 + (eU S (g 9 + 1) - eU S (g 9))) 9 = g 9 + 1 := by rw [up_o _ _ (by decide), up_s]
    have u0 : up (up g 9 (g 9 + 1)) 0 (g 0 + (eU S (g 9 + 1) - eU S (g 9))) 0 = g 0 + (eU S (g 9 + 1) - eU S (g 9)) := up_s _ _ _
    show xH w h' S (up (up g 9 (g 9 + 1)) 0 (g 0 + (eU S (g 9 + 1) - eU S (g 9)))) (ap (g 0) F (fun _ => g 9 + 1)) (ap (g 0) L (fun k => cL S (k - g 0 + eU S (g 9)))) (ap (g 0) W (fun k => cW S (k - g 0 + eU S (g 9)))) At
    unfold xH
    rw [u9, u0, ui 4 (by decide) (by decide), ui 5 (by decide) (by decide), ui 6 (by decide) (by decide), ui 8 (by decide) (by decide), ui 10 (by decide) (by decide), j 4 (by decide) (by decide) (by decide), j 5 (by decide) (by decide) (by decide), j 6 (by decide) (by decide) (by decide), j 7 (by decide) (by decide) (by decide), j 8 (by decide) (by decide) (by decide), j 10 (by decide) (by decide) (by decide), j9]
    rw [t9, z8] at c4
    refine ⟨c4, c3, z3, z4, z5, ?_, z7, rfl, z9, Or.inl (c6 c)⟩
    rw [z6]
    exact (wAt_cg _ (fun k hk => ⟨ap_lt (by omega), ap_lt (by omega), rfl⟩)).symm
theorem c_X8_handEnded (sA : shA w) (I : invQ w h S q) : CI mX8_handEnded [vR 1] w h (fun x h' => x = (if q.1 9 ≤ S 98 then 0 else 1) ∧ h' = h) := by
  obtain ⟨iT, iS, iC, iO, iP, iR, iH, iN, iK⟩ := id I
  have e9 := iH.2.2.2.2.2.2.2.1
  have k8 := iK.2.2.2.2.2.2.2.1
  have l3 := iN.1.2.2.1
  refine e_X8_handEnded (r_X8_handEnded_0 sA ?_)
  rw [e9, iS.2.2.2.1]
  exact ⟨(fa_so sA iS).1, by omega, by omega, fun c => ⟨(if_pos c).symm, rfl⟩, fun c => ⟨(if_neg c).symm, rfl⟩⟩
theorem c_pass (sA : shA w) (I : invQ w h S q) (hu : q.1 9 ≤ S 98) : CI mX1_passTick [vR 44, vR 21, vI (S 99)] w h (fun x h' => x = wokeHS S q ∧ invQ w h' S (stepHS S q) ∧ frX h h') := by
  obtain ⟨iT, iS, iC, iO, iP, iR, iH, iN, iK⟩ := id I
  obtain ⟨z1, z2, z3, z4, z5, z6, z7, z8, z9, z10⟩ := id iH
  obtain ⟨k1, k2, k3, k4, k5, k6, k7, k8, k9, k10, k11, k12⟩ := id iK
  obtain ⟨okc, hL⟩ := inv_ok iN
  have r0 := eU_r S (q.1 9)
  have n2 := iN.2
  have l3 := iN.1.2.2.1
  have l4 := iN.1.2.2.2.1
  refine (c_X1_passTick (p := S 99) (fa_hand sA) (fa_calls21 sA) z1 k1 iC.1 okc (by omega) (by omega) (by omega) (by omega) (by omega) (by omega) (by omega)).mono ?_
  rintro x h2 ⟨h1, e, q1, q2, q3⟩
  rw [z2] at q2
  rw [z4, z8, z9] at q1
  rw [z8] at q3
  have want := want_F (r := q.1 10) (u := q.1 9) (p := S 99) k1 k5.1 k5.2 (Int.le_refl _)
  have fo : ∀ b, (b < 44 ∨ 49 < b) → h2 b = h1 b := fun b hb => q2.2.2.2.2.2.2.2 b (by omega)
  rcases q1 with ⟨a1, a2, a3⟩ | ⟨a1, a2, a3⟩
  · have nw : ¬ wantQ S q := fun z => a2 (want.mpr z)
    have es : stepHS S q = comeHS S q := by unfold stepHS; rw [if_neg nw]
    rw [a3] at q2 fo
    have H := xH_come iN iH iK q2 q3
    refine ⟨by rw [a1, wokeHS, if_neg nw], ?_⟩
    have ks := step_ok iN iK hu
    rw [es] at ks ⊢
    exact inv_hand I (fun b hb => (fo b (by omega)).trans ((tick1_f h 44).2.2 b (by omega))) H ks
  · have nw : wantQ S q := want.mp a2
    have es : stepHS S q = comeHS S (wakeHS q) := by unfold stepHS; rw [if_pos nw]
    rw [a3] at q2 fo
    have H := xH_come (q := wakeHS q) iN (xH_wake iH iK) (wake_ok iK nw.1) q2 q3
    refine ⟨by rw [a1, wokeHS, if_pos nw], ?_⟩
    have ks := step_ok iN iK hu
    rw [es] at ks ⊢
    refine inv_hand I (fun b hb => (fo b (by omega)).trans (((tick1_f _ 44).2.2 b (by omega)).trans ((wakeH_f h 44 _ _).2.2.2.2.2 b (by omega)))) H ks
end
