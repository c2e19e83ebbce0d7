section
variable {w : WS} {h : AH} {S : Int → Int} {q : HS}
theorem c_X9_begins (sA : shA w) (A : isAll h S) (iN : okS S ∧ cN S ≤ 200) : CV mX9_begins [vR 65] w h (fun h' => mH h' (g0 S, fun _ => 0, cL S, cW S, fun _ => 0) ∧ kH h h') := by
  have l3 := iN.1.2.2.1
  have n2 := iN.2
  refine e_X9_begins (r_X9_begins_0 sA ?_)
  intro h1 e1 h3 e3 h5 e5 h7 e7 h9 e9 h11 e11
  have k11 : kH h h11 := by
    rw [e11, e9, e7, e5, e3, e1]
    exact kH_st (kH_st (kH_st (kH_st (kH_st (kH_st (kH_rfl h) (by omega)) (by omega)) (by omega)) (by omega)) (by omega)) (by omega)
  have t20 : h11 65 20 = 0 := by rw [e11, st_slot _ _ _ _ (by decide), e9, st_slot _ _ _ _ (by decide), e7, st_slot _ _ _ _ (by decide), e5, st_slot _ _ _ _ (by decide), e3, st_slot _ _ _ _ (by decide), e1, st_same]
  have t21 : h11 65 21 = 0 := by rw [e11, st_slot _ _ _ _ (by decide), e9, st_slot _ _ _ _ (by decide), e7, st_slot _ _ _ _ (by decide), e5, st_slot _ _ _ _ (by decide), e3, st_same]
  have t22 : h11 65 22 = -1 := by rw [e11, st_slot _ _ _ _ (by decide), e9, st_slot _ _ _ _ (by decide), e7, st_slot _ _ _ _ (by decide), e5, st_same]
  have t23 : h11 65 23 = 0 := by rw [e11, st_slot _ _ _ _ (by decide), e9, st_slot _ _ _ _ (by decide), e7, st_same]
  have t24 : h11 65 24 = 2 := by rw [e11, st_slot _ _ _ _ (by decide), e9, st_same]
  have t25 : h11 65 25 = 0 := by rw [e11, st_same]
  obtain ⟨ev, er⟩ := eU_row iN.1 (u := 0) (by omega) (by omega)
  have em : eU S (0 - 1) = 0 := by
    unfold eU
    rw [show (min ((0 : Int) - 1 + 1) (S 98 + 1)).toNat = 0 by omega, cls]; rfl
  rw [em] at ev er
  have r0 := eU_r S 0
  refine (c_X9_callsNow sA (kH_all k11 A) iN.1 (by omega) (by omega) (by omega) (by omega) (by rw [t23, t20]; omega)).mono ?_
  intro h' R
  have R1 := R.1 (by omega)
  refine ⟨?_, kH_tr k11 (kH_cmR R1)⟩
  obtain ⟨r1, r2, r3, r4, r5⟩ := R1
  rw [t20, t23] at r1 r4
  have new : ∀ k, 0 ≤ k → k < eU S 0 → h' 77 k = 0 ∧ h' 78 k = cL S k ∧ h' 79 k = cW S k ∧ h' 80 k = -1 := by
    intro k k0 k1
    have hi : k.toNat < (rowT S 0 (S 97).toNat).length := by omega
    have hx : (rowT S 0 (S 97).toNat)[k.toNat]? = some (rowT S 0 (S 97).toNat)[k.toNat] := List.getElem?_eq_getElem hi
    have a := r4 _ _ hx
    have b := er _ _ hx
    rw [show (0 : Int) + ((k.toNat : Nat) : Int) = k by omega] at a b
    unfold cL cW
    rw [b.1, b.2]
    exact a
  unfold mH
  dsimp only
  rw [r2 21 (by decide), r2 22 (by decide), r2 23 (by decide), r2 24 (by decide), r2 25 (by decide), t21, t22, t23, t24, t25]
  have e0 : g0 S 0 = eU S 0 := rfl
  have e5' : g0 S 5 = 0 := rfl
  rw [e0, e5']
  refine ⟨by rw [r1]; omega, fun k k0 k1 => ?_, fun k k0 k1 => by omega, fun k k0 k1 => (new k k0 k1).2.2.2, rfl, rfl, rfl, rfl, rfl⟩
  have := new k k0 k1
  exact ⟨this.1, this.2.1, this.2.2.1⟩
theorem c_X9_isDue (sA : shA w) (iN : okS S ∧ cN S ≤ 200) (A : isAll h S) (H : mH h q) (K : okHq S q) : CI mX9_isDue [vR 65] w h (fun x h' => (x = 1 ∧ wantQ S q ∨ x = 0 ∧ ¬ wantQ S q) ∧ h' = h) := by
  obtain ⟨m1, m2, m3, m4, m5, m6, m7, m8, m9⟩ := id H
  obtain ⟨c1, c2, c3, c4, c5, c6, c7, c8, c9, c10, c11, c12⟩ := id K
  have l3 := iN.1.2.2.1
  have l4 := iN.1.2.2.2.1
  have n0 := c1.1
  have a99 := A 99 (by omega) (by omega)
  have mr := mnF_r (L := q.2.2.1) (a := q.1 5) (q.1 0 - q.1 5).toNat (fun k k0 k1 => by have := (c1.2.1 k (by omega) (by omega)).1; omega)
  have wr := wsum_r c1 (u := q.1 9 + 1) (by omega) (q.1 0 - q.1 5).toNat (q.1 5) c5.1 (by omega)
  refine e_X9_isDue (r_X9_isDue_0 sA ?_)
  rw [m6, m7]
  refine ⟨by omega, by omega, fun c => ⟨Or.inr ⟨rfl, fun z => ?_⟩, rfl⟩, fun c => (c_X9_left sA iN.1 H K).eq ?_⟩
  · have := c10 c
    have := z.1
    omega
  · rw [m8]
    refine ⟨by omega, fun d => ⟨Or.inr ⟨rfl, fun z => by have := z.1; omega⟩, rfl⟩, fun d => ⟨by omega, fun d0 => ⟨Or.inl ⟨rfl, by omega, Or.inl d0⟩, rfl⟩, fun d0 => (c_X9_leftLatest sA iN.1 H K).eq ?_⟩⟩
    have lst := (mnF_iff (u := mnF q.2.2.1 (q.1 5) (q.1 0 - q.1 5).toNat) c1 c5.1 c5.2 (Int.le_refl _)).mpr rfl
    have ge : q.1 9 ≤ mnF q.2.2.1 (q.1 5) (q.1 0 - q.1 5).toNat := by
      rcases lst with ⟨-, z⟩ | ⟨⟨k, k1, k2⟩, -⟩
      · exact absurd ⟨Int.le_refl _, by omega⟩ (z (q.1 5))
      · have := c11 k k1.1 k1.2; omega
    rw [m7, m8]
    refine ⟨by omega, by omega, fun d1 => ⟨Or.inl ⟨rfl, by omega, Or.inr (Or.inl (by omega))⟩, rfl⟩, fun d1 => ⟨by omega, fun d2 => ⟨Or.inr ⟨rfl, fun z => ?_⟩, rfl⟩, fun d2 => (c_X9_leftWaits sA iN.1 H K).eq ?_⟩⟩
    · rcases z.2 with z | z | z
      · exact d0 z
      · omega
      · exact d2 z.1
    · rw [a99]
      refine ⟨by omega, by omega, fun d3 => ⟨Or.inr ⟨rfl, fun z => ?_⟩, rfl⟩, fun d3 => ⟨Or.inl ⟨rfl, by omega, Or.inr (Or.inr ⟨d2, by omega⟩)⟩, rfl⟩⟩
      rcases z.2 with z | z | z
      · exact d0 z
      · omega
      · omega
theorem step6 (S : Int → Int) (q : HS) : (stepHS S q).1 6 = q.1 6 + wokeHS S q := by
  have c : ∀ q : HS, (comeHS S q).1 6 = q.1 6 := fun q => by
    unfold comeHS
    split
    · show up q.1 9 (q.1 9 + 1) 6 = q.1 6
      exact up_o _ _ (by decide)
    · show up (up q.1 9 (q.1 9 + 1)) 0 (q.1 0 + (eU S (q.1 9 + 1) - eU S (q.1 9))) 6 = q.1 6
      rw [up_o _ _ (by decide), up_o _ _ (by decide)]
  unfold stepHS wokeHS
  rw [c]
  split
  · show wakeG q.1 6 = q.1 6 + 1
    exact (wakeG_at q.1).2.2.2.1
  · omega
theorem c_X9_go {n : Int} (sA : shA w) (iN : okS S ∧ cN S ≤ 200) (A : isAll h S) (H : mH h q) (K : okHq S q) (hn : inR n) : CI mX9_go [vR 65, vI n] w h (fun x h' => kH h h' ∧ ((goC S q n ∧ x = (goHS S n.toNat q).2 ∧ mH h' (goHS S n.toNat q).1) ∨ (¬ goC S q n ∧ x = -1 ∧ h' = h))) := by
  have l3 := iN.1.2.2.1
  have u0 := K.2.2.2.2.2.2.2.1
  have key : ∀ (d : Nat) (q1 : HS) (i : Int) (h1 : AH), goC S q n → i + d = n → 0 ≤ i → n ≤ 300 → mH h1 q1 → okHq S q1 → kH h h1 → q1.1 6 - q.1 6 + (goHS S d q1).2 = (goHS S n.toNat q).2 → (goHS S d q1).1 = (goHS S n.toNat q).1 → XI mX9_go 34 [some (vR 65), some (vI n), some (vI (q.1 6)), some (vI i)] [] w h1 (fun x h' => kH h h' ∧ ((goC S q n ∧ x = (goHS S n.toNat q).2 ∧ mH h' (goHS S n.toNat q).1) ∨ (¬ goC S q n ∧ x = -1 ∧ h' = h))) := by
    intro d
    induction d with
    | zero =>
      intro q1 i h1 hc hi i0 n3 H1 K1 k1 e1 e2
      refine r_X9_go_34 sA ⟨by omega, by omega, fun _ => ⟨k1, Or.inl ⟨hc, ?_, ?_⟩⟩, fun c => absurd c (by omega)⟩
      · rw [H1.2.2.2.2.1]; rw [goHS] at e1; omega
      · rw [← e2]; exact H1
    | succ d ih =>
      intro q1 i h1 hc hi i0 n3 H1 K1 k1 e1 e2
      have A1 := kH_all k1 A
      have v0 := K1.2.2.2.2.2.2.2.1
      rw [goHS] at e1 e2
      refine r_X9_go_34 sA ?_
      rw [H1.2.2.2.2.2.2.1, A1 98 (by omega) (by omega), H1.2.2.2.2.1]
      refine ⟨by omega, by omega, fun c => absurd c (by omega), fun _ => ⟨by omega, by omega, fun c => ?_, fun c => ?_⟩⟩
      · rw [if_pos c] at e1 e2
        refine ⟨k1, Or.inl ⟨hc, ?_, ?_⟩⟩
        · dsimp only at e1; omega
        · rw [← e2]; exact H1
      · rw [if_neg c] at e1 e2
        dsimp only at e1 e2
        have s6 := step6 S q1
        have ks := step_ok iN K1 (by omega)
        refine (c_X9_isDue sA iN A1 H1 K1).mono ?_
        rintro x h5 ⟨z, rfl⟩
        rcases z with ⟨z1, z2⟩ | ⟨z1, z2⟩
        · refine ⟨by omega, fun y => absurd y (by omega), fun _ => (c_X9_handWakes sA iN.1 H1 K1).mono ?_⟩
          rintro h11 ⟨H11, k11⟩ h12 e12
          have es : stepHS S q1 = comeHS S (wakeHS q1) := by unfold stepHS; rw [if_pos z2]
          refine c_next sA iN (kH_all k11 A1) H11 (wake_ok K1 z2.1) (show (wakeHS q1).1 9 ≤ S 98 by show q1.1 9 ≤ S 98; omega) e12 (fun h14 H14 k14 => ?_)
          rw [← es] at H14
          exact ih _ (i + 1) h14 hc (by omega) (by omega) n3 H14 ks (kH_tr k1 (kH_tr k11 k14)) (by omega) e2
        · refine ⟨by omega, fun _ h8 e8 => ?_, fun y => absurd z1 y⟩
          have es : stepHS S q1 = comeHS S q1 := by unfold stepHS; rw [if_neg z2]
          refine c_next sA iN A1 H1 K1 (by omega) e8 (fun h14 H14 k14 => ?_)
          rw [← es] at H14
          exact ih _ (i + 1) h14 hc (by omega) (by omega) n3 H14 ks (kH_tr k1 k14) (by omega) e2
  have no : ¬ goC S q n → kH h h ∧ ((goC S q n ∧ (-1 : Int) = (goHS S n.toNat q).2 ∧ mH h (goHS S n.toNat q).1) ∨ (¬ goC S q n ∧ (-1 : Int) = -1 ∧ h = h)) := fun z => ⟨kH_rfl h, Or.inr ⟨z, rfl, rfl⟩⟩
  refine e_X9_go (r_X9_go_0 sA ?_)
  rw [H.2.2.2.2.2.2.1, A 98 (by omega) (by omega), H.2.2.2.2.1]
  refine ⟨hn, fun c => no (fun z => c z.1), fun c => ⟨by omega, by omega, fun c2 => ?_, fun c2 => no (fun z => c2 z.2)⟩⟩
  exact key n.toNat q 0 h ⟨c, c2⟩ (by omega) (by omega) (by omega) H K (kH_rfl h) (by omega) rfl
theorem c_X9_rule {r : Int} (sA : shA w) (H : mH h q) (K : okHq S q) (hr : inR r) : CI mX9_rule [vR 65, vI r] w h (fun x h' => kH h h' ∧ (((0 ≤ r ∧ r ≤ 2 ∧ r ≠ q.1 10) ∧ x = 1 ∧ mH h' (ruleHS r q)) ∨ (¬ (0 ≤ r ∧ r ≤ 2 ∧ r ≠ q.1 10) ∧ x = 0 ∧ h' = h))) := by
  obtain ⟨m1, m2, m3, m4, m5, m6, m7, m8, m9⟩ := id H
  have c9 := K.2.2.2.2.2.2.2.2.1
  refine e_X9_rule (r_X9_rule_0 sA ?_)
  rw [m8]
  refine ⟨hr, fun c => ⟨kH_rfl h, Or.inr ⟨by omega, rfl, rfl⟩⟩, fun c => ⟨by omega, fun c2 h3 e3 => ?_, fun c2 => ⟨kH_rfl h, Or.inr ⟨by omega, rfl, rfl⟩⟩⟩⟩
  refine ⟨by rw [e3]; exact kH_st (kH_rfl h) (by omega), Or.inl ⟨by omega, rfl, ?_⟩⟩
  have ui : ∀ i, i ≠ 10 → up q.1 10 r i = q.1 i := fun i hi => up_o _ _ hi
  have si : ∀ i, i ≠ 24 → h3 65 i = h 65 i := fun i hi => by rw [e3, st_slot _ _ _ _ hi]
  have so : ∀ b, b ≠ 65 → h3 b = h b := fun b hb => by rw [e3, st_row _ _ _ hb]
  show mH h3 (up q.1 10 r, q.2)
  unfold mH
  dsimp only
  rw [ui 0 (by decide), ui 5 (by decide), ui 6 (by decide), ui 8 (by decide), ui 9 (by decide), ui 4 (by decide), up_s, si 20 (by decide), si 21 (by decide), si 22 (by decide), si 23 (by decide), si 25 (by decide), so 77 (by decide), so 78 (by decide), so 79 (by decide), so 80 (by decide)]
  exact ⟨m1, m2, m3, m4, m5, m6, m7, by rw [e3, st_same], m9⟩
theorem c_X9_now (sA : shA w) (ok : okS S) (H : mH h q) (K : okHq S q) : CI mX9_now [vR 65] w h (fun x h' => kH h h' ∧ ((q.1 5 < q.1 0 ∧ x = q.1 0 - q.1 5 ∧ mH h' (wakeHS q)) ∨ (¬ q.1 5 < q.1 0 ∧ x = -1 ∧ h' = h))) := by
  have n0 := K.1.1
  have c5 := K.2.2.2.2.1
  refine e_X9_now (r_X9_now_0 sA ((c_X9_left sA ok H K).eq ⟨by omega, fun c => (c_X9_handWakes sA ok H K).mono ?_, fun c => ⟨kH_rfl h, Or.inr ⟨by omega, rfl, rfl⟩⟩⟩))
  rintro h4 ⟨H4, k4⟩
  exact ⟨k4, Or.inl ⟨by omega, rfl, H4⟩⟩
theorem c_X9_ring {k : Int} (sA : shA w) (iN : okS S ∧ cN S ≤ 200) (A : isAll h S) (H : mH h q) (K : okHq S q) (hk : inR k) : CI mX9_ring [vR 65, vI k] w h (fun x h' => kH h h' ∧ ((rngC S q k ∧ x = min (q.1 9 + slk S k) (S 98) ∧ mH h' (ringHS S k q)) ∨ (¬ rngC S q k ∧ x = -1 ∧ h' = h))) := by
  obtain ⟨m1, m2, m3, m4, m5, m6, m7, m8, m9⟩ := id H
  obtain ⟨c1, c2, c3, c4, c5, c6, c7, c8, c9, c10, c11, c12⟩ := id K
  have l1 := iN.1.1
  have l3 := iN.1.2.2.1
  have n2 := iN.2
  have r0 := eU_r S (q.1 9)
  have no : ¬ rngC S q k → kH h h ∧ ((rngC S q k ∧ (-1 : Int) = min (q.1 9 + slk S k) (S 98) ∧ mH h (ringHS S k q)) ∨ (¬ rngC S q k ∧ (-1 : Int) = -1 ∧ h = h)) := fun z => ⟨kH_rfl h, Or.inr ⟨z, rfl, rfl⟩⟩
  refine e_X9_ring (r_X9_ring_0 sA ?_)
  rw [A 96 (by omega) (by omega), m7, A 98 (by omega) (by omega), m9]
  refine ⟨hk, by omega, fun c => no (fun z => c z.1), fun c => ⟨by omega, by omega, fun d => no (fun z => by have := z.2.1; omega), fun d => ⟨by omega, fun d2 h6 e6 => ?_, fun d2 => no (fun z => by have := z.2.2; omega)⟩⟩⟩
  have k6 : kH h h6 := by rw [e6]; exact kH_st (kH_rfl h) (by omega)
  have ti : ∀ i, i ≠ 25 → h6 65 i = h 65 i := fun i hi => by rw [e6, st_slot _ _ _ _ hi]
  have to : ∀ b, b ≠ 65 → h6 b = h b := fun b hb => by rw [e6, st_row _ _ _ hb]
  have t20 : h6 65 20 = q.1 0 := by rw [ti 20 (by decide)]; exact m1
  have t22 : h6 65 22 = q.1 8 := by rw [ti 22 (by decide)]; exact m6
  have t23 : h6 65 23 = q.1 9 := by rw [ti 23 (by decide)]; exact m7
  refine (c_X9_comes sA (kH_all k6 A) iN.1 c (by omega) (by omega) (by omega)).mono ?_
  rintro x h8 ⟨ex, b1, b2, b3, b4, b5, b6, b7⟩
  rw [t23] at ex b3 b4 b6
  rw [t20] at b1 b3 b4 b5 b6
  rw [t22] at b6
  refine ⟨kH_tr k6 ⟨b7, fun i hi => b2 i (by omega)⟩, Or.inl ⟨⟨c, by omega, by omega⟩, ex, ?_⟩⟩
  obtain ⟨e0, e4, e5, e6', e8, e9, e10⟩ := ringG_at q S k
  unfold mH
  rw [e0, e4, e5, e6', e8, e9, e10]
  refine ⟨b1, fun j j0 j1 => ?_, fun j j0 j1 => ?_, fun j j0 j1 => ?_, by rw [b2 21 (by decide), ti 21 (by decide)]; exact m5, by rw [b2 22 (by decide)]; exact t22, by rw [b2 23 (by decide)]; exact t23, by rw [b2 24 (by decide), ti 24 (by decide)]; exact m8, by rw [b2 25 (by decide), e6, st_same]⟩
  · rw [b3, b4, b5]
    show up (h6 77) (q.1 0) (q.1 9) j = up q.2.1 (q.1 0) (q.1 9) j ∧ up (h6 78) (q.1 0) (min (q.1 9 + slk S k) (S 98)) j = up q.2.2.1 (q.1 0) (min (q.1 9 + slk S k) (S 98)) j ∧ up (h6 79) (q.1 0) (wgt S k) j = up q.2.2.2.1 (q.1 0) (wgt S k) j
    by_cases z : j = q.1 0
    · rw [z, up_s, up_s, up_s, up_s, up_s, up_s]; exact ⟨rfl, rfl, rfl⟩
    · rw [up_o _ _ z, up_o _ _ z, up_o _ _ z, up_o _ _ z, up_o _ _ z, up_o _ _ z, to 77 (by decide), to 78 (by decide), to 79 (by decide)]
      exact m2 j j0 (by omega)
  · rw [b6]
    show up (h6 80) (q.1 0) (if q.1 8 = q.1 9 then q.1 9 else -1) j = up q.2.2.2.2 (q.1 0) (q.1 9) j
    by_cases z : j = q.1 0
    · rw [z, up_s, up_s]
      by_cases y : q.1 8 = q.1 9
      · rw [if_pos y]
      · rw [if_neg y] at j1; omega
    · rw [up_o _ _ z, up_o _ _ z, to 80 (by decide)]
      refine m3 j j0 ?_
      by_cases y : q.1 8 = q.1 9
      · rw [if_pos y] at j1; have := c10 y; omega
      · rw [if_neg y] at j1; exact j1
  · rw [b6]
    by_cases y : q.1 8 = q.1 9
    · rw [if_pos y] at j0; omega
    · rw [if_neg y] at j0 ⊢
      by_cases z : j = q.1 0
      · rw [z, up_s]
      · rw [up_o _ _ z, to 80 (by decide)]; exact m4 j j0 (by omega)
theorem c_X9_laysHindsight (sA : shA w) (iN : okS S ∧ cN S ≤ 200) (A : isAll h S) (H : mH h q) (K : okHq S q) : CV mX9_laysHindsight [vR 65] w h (fun h' => isR h' (q.1 0) q.2.1 q.2.2.1 q.2.2.2.1 ∧ planS (q.1 0) q.2.1 q.2.2.1 q.2.2.2.1 S 1 (h' 65 12) (h' 73) ∧ kM h h') := by
  obtain ⟨m1, m2, m3, m4, m5, m6, m7, m8, m9⟩ := id H
  have n0 := K.1.1
  have key : ∀ (d : Nat) (i : Int) (h1 : AH), i + d = q.1 0 → 0 ≤ i → h1 65 10 = q.1 0 → (∀ k, 0 ≤ k → k < i → h1 69 k = q.2.1 k ∧ h1 70 k = q.2.2.1 k ∧ h1 71 k = q.2.2.2.1 k) → kM h h1 → XV mX9_laysHindsight 10 [some (vR 65), some (vI i)] [] w h1 (fun h' => isR h' (q.1 0) q.2.1 q.2.2.1 q.2.2.2.1 ∧ planS (q.1 0) q.2.1 q.2.2.1 q.2.2.2.1 S 1 (h' 65 12) (h' 73) ∧ kM h h') := by
    intro d
    induction d with
    | zero =>
      intro i h1 hi i0 e10 hr km
      have R1 : isR h1 (q.1 0) q.2.1 q.2.2.1 q.2.2.2.1 := ⟨e10, fun k k0 k1 => hr k k0 (by omega)⟩
      refine r_X9_laysHindsight_10 sA ?_
      rw [e10]
      refine ⟨by omega, by omega, fun _ => (c_X9_laysDearest sA (kM_all km A) iN.1 R1 K.1 (fun k k0 k1 => (K.2.1 k k0 k1).1) (Or.inl rfl)).mono ?_, fun c => absurd c (by omega)⟩
      rintro h3 ⟨d1, d2, d3⟩
      exact ⟨isR_f R1 (d3 10 (by decide)) (fun b b1 b2 => d2 b (by omega) (by omega)), Or.inr (Or.inl ⟨by decide, d1⟩), kM_tr km ⟨fun b hb => d2 b (by omega) (by omega), fun i hi => d3 i (by omega)⟩⟩
    | succ d ih =>
      intro i h1 hi i0 e10 hr km
      obtain ⟨g1, g2, g3⟩ := m2 i i0 (by omega)
      refine r_X9_laysHindsight_10 sA ?_
      rw [e10, km.1 77 (by decide), g1]
      refine ⟨by omega, by omega, fun c => absurd c (by omega), fun _ => ⟨i0, by omega, fun h6 e6 h8 e8 h10 e10' => ?_⟩⟩
      have k6 : kM h h6 := by rw [e6]; exact kM_st km (by omega)
      have k8 : kM h h8 := by rw [e8]; exact kM_st k6 (by omega)
      have k10 : kM h h10 := by rw [e10']; exact kM_st k8 (by omega)
      rw [k6.1 78 (by decide), g2] at e8
      rw [k8.1 79 (by decide), g3] at e10'
      refine ih (i + 1) h10 (by omega) (by omega) (by rw [e10', st_cell _ _ _ _ (by decide), e8, st_cell _ _ _ _ (by decide), e6, st_cell _ _ _ _ (by decide)]; exact e10) (fun k k0 k1 => ?_) k10
      by_cases z : k = i
      · rw [z, e10', st_cell _ _ _ _ (by decide), st_cell _ _ _ _ (by decide), st_same, e8, st_cell _ _ _ _ (by decide), st_same, e6, st_same]
        exact ⟨rfl, rfl, rfl⟩
      · rw [e10', st_slot _ _ _ _ z, st_slot _ _ _ _ z, st_slot _ _ _ _ z, e8, st_slot _ _ _ _ z, st_slot _ _ _ _ z, st_slot _ _ _ _ z, e6, st_slot _ _ _ _ z, st_slot _ _ _ _ z, st_slot _ _ _ _ z]
        exact hr k k0 (by omega)
  refine e_X9_laysHindsight (r_X9_laysHindsight_0 sA fun h1 e1 => ?_)
  rw [m1] at e1
  exact key (q.1 0).toNat 0 h1 (by omega) (by omega) (by rw [e1, st_same]) (fun k k0 k1 => by omega) (by rw [e1]; exact kM_st (kM_rfl h) (by omega))
theorem c_X9_hand {a x0 : Int} (sA : shA w) (iN : okS S ∧ cN S ≤ 200) (A : isAll h S) (H : mH h q) (K : okHq S q) (ha : inR a) (hx : hanA S q a x0) : CI mX9_hand [vR 65, vI a] w h (fun x h' => x = x0 ∧ kM h h') := by
  obtain ⟨m1, m2, m3, m4, m5, m6, m7, m8, m9⟩ := id H
  obtain ⟨x1, x2, x3, x4, x5, x6, x7, x8, x9, x10⟩ := hx
  have hL : ∀ k, 0 ≤ k → k < q.1 0 → q.2.2.1 k ≤ S 98 := fun k k0 k1 => (K.2.1 k k0 k1).1
  have a99 := A 99 (by omega) (by omega)
  refine e_X9_hand (r_X9_hand_0 sA ?_)
  rw [m1, m5, m6, m7, a99]
  refine ⟨ha, fun d => ⟨(x1 d).symm, kM_rfl h⟩, fun d => (c_X9_left sA iN.1 H K).eq ⟨(x2 d).symm, kM_rfl h⟩, fun d => ⟨(x3 d).symm, kM_rfl h⟩, fun d => (c_X9_handWaits sA iN.1 H K).eq ⟨(x4 d).symm, kM_rfl h⟩, fun d => (c_X9_leftWaits sA iN.1 H K).eq ⟨(x5 d).symm, kM_rfl h⟩, fun d => (c_X9_leftLatest sA iN.1 H K).eq ⟨(x6 d).symm, kM_rfl h⟩, fun d => ⟨(x7 d).symm, kM_rfl h⟩, fun d => (c_X9_laysHindsight sA iN A H K).mono ?_, fun d => (c_X9_laysHindsight sA iN A H K).mono ?_, fun d => ⟨(x10 d).symm, kM_rfl h⟩⟩
  · rintro h17 ⟨R, P, km⟩
    obtain ⟨m, t, p1, p2, p3⟩ := x8 d
    have o := planS_one K.1 iN.1 hL P p1
    have okw := planS_okW K.1 iN.1 hL p1
    have V : isV h17 m t := ⟨o.1, fun k k0 k1 => o.2 k k0 (by omega)⟩
    rw [V.1, kM_all km A 99 (by omega) (by omega)]
    exact (c_X9_waitsAll sA R K.1 V okw).eq ⟨p3.symm, km⟩
  · rintro h17 ⟨R, P, km⟩
    obtain ⟨m, t, p1, p2, p3⟩ := x9 d
    have o := planS_one K.1 iN.1 hL P p1
    exact ⟨by rw [o.1, p3], km⟩
end
