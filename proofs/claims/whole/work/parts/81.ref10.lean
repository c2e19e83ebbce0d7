section
variable {w : WS} {h : AH} {S : Int → Int} {q : HS}
theorem kH_st {h1 : AH} {b i v : Int} (a : kH h h1) (hb : (77 ≤ b ∧ b ≤ 80) ∨ (b = 65 ∧ 20 ≤ i ∧ i ≤ 25)) : kH h (st h1 b i v) := by
  refine ⟨fun x x1 x2 => ?_, fun j hj => ?_⟩
  · rw [st_row _ _ _ (by omega)]; exact a.1 x x1 x2
  · by_cases e : b = 65
    · rw [e, st_slot _ _ _ _ (by omega)]; exact a.2 j hj
    · rw [st_cell _ _ _ _ (by omega)]; exact a.2 j hj
theorem kH_cmR {h' : AH} {P : List (Int × Int)} (a : cmR S h h' P) : kH h h' := ⟨a.2.2.2.2, fun i hi => a.2.1 i (by omega)⟩
theorem eU_end (ok : okS S) {u : Int} (hu : u = S 98) : eU S (u + 1) = eU S u := by
  have l3 := ok.2.2.1
  unfold eU
  rw [show min (u + 1 + 1) (S 98 + 1) = S 98 + 1 by omega, show min (u + 1) (S 98 + 1) = S 98 + 1 by omega]
theorem mH_come {h8 h' : AH} (iN : okS S ∧ cN S ≤ 200) (H : mH h q) (K : okHq S q) (hu : q.1 9 ≤ S 98) (e8 : h8 = st h 65 23 (q.1 9 + 1)) (R : (h8 65 23 ≤ S 98 → cmR S h8 h' (rowT S (h8 65 23) (S 97).toNat)) ∧ (¬ h8 65 23 ≤ S 98 → h' = h8)) : mH h' (comeHS S q) := by
  obtain ⟨m1, m2, m3, m4, m5, m6, m7, m8, m9⟩ := H
  obtain ⟨c1, c2, c3, c4, c5, c6, c7, c8, c9, c10, c11, c12⟩ := id K
  have t23 : h8 65 23 = q.1 9 + 1 := by rw [e8, st_same]
  have ti : ∀ i, i ≠ 23 → h8 65 i = h 65 i := fun i hi => by rw [e8, st_slot _ _ _ _ hi]
  have to : ∀ b, b ≠ 65 → h8 b = h b := fun b hb => by rw [e8, st_row _ _ _ hb]
  rw [t23] at R
  have same : ∀ h9 : AH, h9 65 20 = q.1 0 → (∀ i, i ≠ 20 → h9 65 i = h8 65 i) → (∀ k, 0 ≤ k → k < q.1 0 → h9 77 k = h 77 k ∧ h9 78 k = h 78 k ∧ h9 79 k = h 79 k ∧ h9 80 k = h 80 k) → mH h9 (up q.1 9 (q.1 9 + 1), q.2) := by
    intro h9 g20 gi gr
    have ui : ∀ i, i ≠ 9 → up q.1 9 (q.1 9 + 1) i = q.1 i := fun i hi => up_o _ _ hi
    unfold mH
    dsimp only
    rw [ui 0 (by decide), ui 5 (by decide), ui 6 (by decide), ui 8 (by decide), up_s, ui 10 (by decide), ui 4 (by decide), gi 21 (by decide), gi 22 (by decide), gi 23 (by decide), gi 24 (by decide), gi 25 (by decide), t23, ti 21 (by decide), ti 22 (by decide), ti 24 (by decide), ti 25 (by decide)]
    refine ⟨g20, fun k k0 k1 => ?_, fun k k0 k1 => ?_, fun k k0 k1 => ?_, m5, m6, rfl, m8, m9⟩
    · obtain ⟨r1, r2, r3, r4⟩ := gr k k0 k1
      rw [r1, r2, r3]; exact m2 k k0 k1
    · rw [(gr k k0 (by omega)).2.2.2]; exact m3 k k0 k1
    · rw [(gr k (by omega) k1).2.2.2]; exact m4 k k0 k1
  by_cases c : q.1 9 + 1 ≤ S 98
  · obtain ⟨r1, r2, r3, r4, r5⟩ := R.1 c
    have n20 : h8 65 20 = q.1 0 := by rw [ti 20 (by decide)]; exact m1
    rw [n20] at r1 r3 r4
    rw [t23] at r4
    obtain ⟨ev, er⟩ := eU_row iN.1 (u := q.1 9 + 1) (by omega) c
    rw [show q.1 9 + 1 - 1 = q.1 9 by omega] at ev er
    unfold comeHS
    split
    · next z =>
      refine same h' (by rw [r1]; omega) r2 (fun k k0 k1 => ?_)
      have := r3 k k1
      rw [to 77 (by decide), to 78 (by decide), to 79 (by decide), to 80 (by decide)] at this
      exact this
    · next z =>
      have ui : ∀ i, i ≠ 9 → i ≠ 0 → up (up q.1 9 (q.1 9 + 1)) 0 (q.1 0 + (eU S (q.1 9 + 1) - eU S (q.1 9))) i = q.1 i := fun i hi h0 => by rw [up_o _ _ h0, up_o _ _ hi]
      have u9 : up (up q.1 9 (q.1 9 + 1)) 0 (q.1 0 + (eU S (q.1 9 + 1) - eU S (q.1 9))) 9 = q.1 9 + 1 := by rw [up_o _ _ (by decide), up_s]
      have u0 : up (up q.1 9 (q.1 9 + 1)) 0 (q.1 0 + (eU S (q.1 9 + 1) - eU S (q.1 9))) 0 = q.1 0 + (eU S (q.1 9 + 1) - eU S (q.1 9)) := up_s _ _ _
      have new : ∀ k, ¬ k < q.1 0 → k < q.1 0 + (eU S (q.1 9 + 1) - eU S (q.1 9)) → h' 77 k = q.1 9 + 1 ∧ h' 78 k = cL S (k - q.1 0 + eU S (q.1 9)) ∧ h' 79 k = cW S (k - q.1 0 + eU S (q.1 9)) ∧ h' 80 k = -1 := by
        intro k k0 k1
        have hi : (k - q.1 0).toNat < (rowT S (q.1 9 + 1) (S 97).toNat).length := by omega
        have hx : (rowT S (q.1 9 + 1) (S 97).toNat)[(k - q.1 0).toNat]? = some (rowT S (q.1 9 + 1) (S 97).toNat)[(k - q.1 0).toNat] := List.getElem?_eq_getElem hi
        have a := r4 _ _ hx
        have b := er _ _ hx
        have ek : q.1 0 + (((k - q.1 0).toNat : Nat) : Int) = k := by omega
        have ej : eU S (q.1 9) + (((k - q.1 0).toNat : Nat) : Int) = k - q.1 0 + eU S (q.1 9) := by omega
        rw [ek] at a
        rw [ej] at b
        unfold cL cW
        rw [b.1, b.2]
        exact a
      unfold mH
      dsimp only
      rw [u0, u9, ui 5 (by decide) (by decide), ui 6 (by decide) (by decide), ui 8 (by decide) (by decide), ui 10 (by decide) (by decide), ui 4 (by decide) (by decide), r2 21 (by decide), r2 22 (by decide), r2 23 (by decide), r2 24 (by decide), r2 25 (by decide), t23, ti 21 (by decide), ti 22 (by decide), ti 24 (by decide), ti 25 (by decide)]
      refine ⟨by rw [r1]; omega, fun k k0 k1 => ?_, fun k k0 k1 => ?_, fun k k0 k1 => ?_, m5, m6, rfl, m8, m9⟩
      · by_cases y : k < q.1 0
        · rw [ap_lt y, ap_lt y, ap_lt y, (r3 k y).1, (r3 k y).2.1, (r3 k y).2.2.1, to 77 (by decide), to 78 (by decide), to 79 (by decide)]
          exact m2 k k0 y
        · rw [ap_ge y, ap_ge y, ap_ge y]
          have := new k y k1
          exact ⟨this.1, this.2.1, this.2.2.1⟩
      · rw [(r3 k (by omega)).2.2.2, to 80 (by decide)]; exact m3 k k0 k1
      · by_cases y : k < q.1 0
        · rw [(r3 k y).2.2.2, to 80 (by decide)]; exact m4 k k0 y
        · exact (new k y k1).2.2.2
  · have e := R.2 c
    unfold comeHS
    rw [if_pos (eU_end iN.1 (by omega)), e]
    exact same h8 (by rw [ti 20 (by decide)]; exact m1) (fun i _ => rfl) (fun k _ _ => by rw [to 77 (by decide), to 78 (by decide), to 79 (by decide), to 80 (by decide)]; exact ⟨rfl, rfl, rfl, rfl⟩)
theorem c_X9_callsNowNo (sA : shA w) (A : isAll h S) (ok : okS S) (hu : S 98 < h 65 23 ∧ h 65 23 ≤ 400) : CV mX9_callsNow [vR 65] w h (fun h' => h' = h) := by
  have l2 := ok.2.1
  have l3 := ok.2.2.1
  refine e_X9_callsNow (r_X9_callsNow_0 sA (r_X9_callsNow_4 sA ?_))
  rw [A 97 (by omega) (by omega), A 98 (by omega) (by omega)]
  exact ⟨by omega, by omega, fun _ => rfl, fun _ => ⟨by omega, by omega, fun _ => rfl, fun c => absurd hu.1 c⟩⟩
/-- the tick and its calls -/
theorem c_next {h8 : AH} {Q : AH → Prop} (sA : shA w) (iN : okS S ∧ cN S ≤ 200) (A : isAll h S) (H : mH h q) (K : okHq S q) (hu : q.1 9 ≤ S 98) (e8 : h8 = st h 65 23 (h 65 23 + 1)) (fin : ∀ h', mH h' (comeHS S q) → kH h h' → Q h') : CV mX9_callsNow [vR 65] w h8 Q := by
  obtain ⟨m1, m2, m3, m4, m5, m6, m7, m8, m9⟩ := id H
  obtain ⟨c1, c2, c3, c4, c5, c6, c7, c8, c9, c10, c11, c12⟩ := id K
  have l3 := iN.1.2.2.1
  have n2 := iN.2
  rw [m7] at e8
  have k8 : kH h h8 := by rw [e8]; exact kH_st (kH_rfl h) (by omega)
  have t23 : h8 65 23 = q.1 9 + 1 := by rw [e8, st_same]
  have t22 : h8 65 22 = q.1 8 := by rw [e8, st_slot _ _ _ _ (by decide)]; exact m6
  have t20 : h8 65 20 = q.1 0 := by rw [e8, st_slot _ _ _ _ (by decide)]; exact m1
  have r0 := eU_r S (q.1 9)
  have r1 := eU_r S (q.1 9 + 1)
  by_cases c : q.1 9 + 1 ≤ S 98
  · have ev := (eU_row iN.1 (u := q.1 9 + 1) (by omega) c).1
    rw [show q.1 9 + 1 - 1 = q.1 9 by omega] at ev
    refine (c_X9_callsNow sA (kH_all k8 A) iN.1 (by omega) (by omega) (by omega) (by omega) (by rw [t23, t20]; omega)).mono ?_
    intro h' R
    refine fin h' (mH_come iN H K hu e8 R) (kH_tr k8 ?_)
    exact kH_cmR (R.1 (by omega))
  · refine (c_X9_callsNowNo sA (kH_all k8 A) iN.1 (by omega)).mono ?_
    intro h' e
    refine fin h' (mH_come iN H K hu e8 ⟨fun z => absurd z (by omega), fun _ => e⟩) ?_
    rw [e]; exact k8
end
