def slkC (S : Int → Int) (k s : Int) : Prop := (0 ≤ k ∧ k < S 96) ∧ (-1 ≤ s ∧ s ≤ 99) ∧ s ≠ S (8 + k)
/-- by hand, at first -/
def g0 (S : Int → Int) : Int → Int := fun i => if i = 0 then eU S 0 else if i = 8 then -1 else if i = 10 then 2 else 0
section
variable {w : WS} {h h' : AH} {S S' g F L W At : Int → Int}
theorem planS_S {n p m : Int} {t : Int → Int} (e8 : S' 98 = S 98) (e9 : S' 99 = S 99) (e0 : S' 100 = S 100) (a : planS n F L W S p m t) : planS n F L W S' p m t := by
  unfold planS
  rw [e8, e9, e0]
  exact a
theorem xC_isP (a : xC w h S) : isP h 21 (clsA S) := by
  refine ⟨a.1.1.1, fun k x hx => ?_⟩
  have hl := (List.getElem?_eq_some_iff.mp hx).1
  have k1 : ((k : Nat) : Int) < cN S := by unfold cN; omega
  have g := clsA_get (S := S) (k := (k : Int)) (by omega) k1
  rw [show ((k : Int)).toNat = k by omega, hx] at g
  rw [Option.some.inj g]
  exact ⟨(a.1.2 k (by omega) k1).1, a.2 k (by omega) k1⟩
theorem isP_at {c : Int} (a : isP h c (clsA S)) {k : Int} (h0 : 0 ≤ k) (h1 : k < cN S) : h (c + 1) k = cF S k ∧ h (c + 4) k = cT S k := by
  have := a.2 k.toNat _ (clsA_get h0 h1)
  rw [show ((k.toNat : Nat) : Int) = k by omega] at this
  exact this
theorem c_X8_takeClasses (sA : shA w) (iS : xS h S) (iN : okS S ∧ cN S ≤ 200) (hP : isP h 21 (clsA S)) (h26 : ∀ p, 0 ≤ p → p < 6 → h 26 p = 27 + 2 * p) : CV mX8_takeClasses [vR 1] w h (fun h' => xC w h' S ∧ xP h' S ∧ xR h' S ∧ (∀ j, j ≠ 10 → h' 1 j = h 1 j) ∧ ∀ b, b ≠ 1 → b ≠ 23 → b ≠ 24 → b ≠ 39 → h' b = h b) := by
  have ho := xS_o iS
  have hs := fa_so sA iS
  have n0 := cN_0 S
  have l21 := fa_cl21 sA
  refine e_X8_takeClasses (r_X8_takeClasses_0 sA ?_)
  refine (c_X0_layOut (n := cN S) (F := cF S) (T := cT S) (fa_calls21 sA) hs iS.2 iN.1 (by omega) ⟨hP.1, n0, by rw [show (21 : Int) + 1 = 22 from rfl, l21]; exact iN.2⟩ ?_).mono ?_
  · intro k k0 k1
    have b := cFT_r iN.1 k0 k1
    have k3 := iN.1.2.2.1
    exact ⟨isP_at hP k0 k1, by omega, b.2.1⟩
  · rintro h1 ⟨l1, l2⟩
    have key : ∀ (d : Nat) (i : Int) (h2 : AH), i + d = 6 → 0 ≤ i → (∀ j, 0 ≤ j → j < i → h2 39 j = 0) → (∀ b, b ≠ 39 → h2 b = h1 b) → XV mX8_takeClasses 13 [some (vR 1), some (vI i)] [] w h2 (fun h' => xC w h' S ∧ xP h' S ∧ xR h' S ∧ (∀ j, j ≠ 10 → h' 1 j = h 1 j) ∧ ∀ b, b ≠ 1 → b ≠ 23 → b ≠ 24 → b ≠ 39 → h' b = h b) := by
      intro d
      induction d with
      | zero =>
        intro i h2 hi i0 hz hf
        refine r_X8_takeClasses_13 sA ⟨by omega, fun _ h3 e3 => ?_, fun c => absurd c (by omega)⟩
        have f3 : ∀ b, b ≠ 1 → b ≠ 39 → h3 b = h1 b := fun b b1 b2 => by rw [e3, st_row _ _ _ b1]; exact hf b b2
        refine ⟨⟨⟨⟨?_, by rw [show (21 : Int) + 1 = 22 from rfl, l21]; exact iN.2⟩, fun k k0 k1 => ⟨?_, ?_, ?_⟩⟩, fun k k0 k1 => ?_⟩, fun p p0 p1 => ⟨?_, Or.inl ?_⟩, Or.inl ?_, fun j hj => ?_, fun b b1 b2 b3 b4 => ?_⟩
        · rw [f3 21 (by omega) (by omega), l2 21 (by omega) (by omega)]; exact hP.1
        · rw [f3 (21 + 1) (by omega) (by omega), l2 (21 + 1) (by omega) (by omega)]; exact (isP_at hP k0 k1).1
        · rw [f3 (21 + 2) (by omega) (by omega), (l1 k k0 k1).1]; rfl
        · rw [f3 (21 + 3) (by omega) (by omega), (l1 k k0 k1).2]; rfl
        · rw [f3 25 (by omega) (by omega), l2 25 (by omega) (by omega)]; exact (isP_at hP k0 k1).2
        · rw [f3 26 (by omega) (by omega), l2 26 (by omega) (by omega)]; exact h26 p p0 p1
        · rw [e3, st_cell _ _ _ _ (by omega)]; exact hz p p0 (by omega)
        · rw [e3, st_same]
        · rw [e3, st_slot _ _ _ _ hj, hf 1 (by omega), l2 1 (by omega) (by omega)]
        · rw [f3 b b1 b4, l2 b (by omega) (by omega)]
      | succ d ih =>
        intro i h2 hi i0 hz hf
        refine r_X8_takeClasses_13 sA ⟨by omega, fun c => absurd c (by omega), fun _ => ⟨i0, by omega, fun h6 e6 => ?_⟩⟩
        refine ih (i + 1) h6 (by omega) (by omega) (fun j j0 j1 => ?_) (fun b hb => by rw [e6, st_row _ _ _ hb]; exact hf b hb)
        by_cases e : j = i
        · rw [e, e6, st_same]
        · rw [e6, st_slot _ _ _ _ e]; exact hz j j0 (by omega)
    exact key 6 0 h1 (by omega) (by omega) (fun j j0 j1 => by omega) (fun b _ => rfl)
theorem c_X8_slacken {k s : Int} (sA : shA w) (I : invX w h S g F L W At) (hk : inR k) (hs : inR s) : CI mX8_slacken [vR 1, vI k, vI s] w h (fun x h' => (slkC S k s ∧ x = 1 ∧ invX w h' (sl S k s) g F L W At ∧ frX h h') ∨ (¬ slkC S k s ∧ x = 0 ∧ h' = h)) := by
  obtain ⟨iT, iS, iC, iO, iP, iR, iH, iN, iK⟩ := id I
  have ho := xS_o iS
  have hs0 := fa_so sA iS
  have k96 := iN.1.1
  obtain ⟨y1, y2, y3, y4, y5, y6, y7⟩ := id iS.2
  refine e_X8_slacken (r_X8_slacken_0 sA ?_)
  rw [y1]
  refine ⟨hs0.1, hk, by omega, fun c => Or.inr ⟨fun q => c q.1, rfl, rfl⟩, fun c => ⟨hs, fun c2 => Or.inr ⟨fun q => by have := q.2.1; omega, rfl, rfl⟩, fun c2 => ⟨fun c3 => Or.inr ⟨fun q => by have := q.2.1; omega, rfl, rfl⟩, fun c3 => ⟨hs0, by omega, ?_⟩⟩⟩⟩
  rw [if_pos c, (y6 k c.1 c.2).2.1]
  have kb := (iN.1.2.2.2.2.2.1 k c.1 c.2).2.1
  refine ⟨by omega, fun c4 => ?_, fun c4 => Or.inr ⟨fun q => q.2.2 c4, rfl, rfl⟩⟩
  refine (c_X5_setSlack hs0 (by rw [y1]; exact k96) c.1 (by rw [y1]; exact c.2)).mono ?_
  intro h8 e8
  have f8 : ∀ b, b ≠ h 1 2 + 3 → h8 b = h b := fun b hb => by rw [e8, st_row _ _ _ hb]
  have o8 : h8 1 = h 1 := f8 1 (by omega)
  have S8 : isS h8 (h 1 2) (sl S k s) := isS_sl iS.2 iN.1 c e8
  have ok1 : okS (sl S k s) := sl_ok iN.1 c (by omega)
  obtain ⟨cn, cf, ct⟩ := sl_c (s := s) iN.1 (show k < 8 by omega)
  have hi := sl_hi (S := S) (s := s) (show k < 8 by omega)
  have P8 : isP h8 21 (clsA (sl S k s)) := by
    rw [sl_cls iN.1 (by omega)]
    have := xC_isP iC
    unfold isP
    rw [f8 21 (by omega), f8 (21 + 1) (by omega), f8 (21 + 4) (by omega)]
    exact this
  refine (c_X8_takeClasses sA (S := sl S k s) ⟨by rw [o8]; exact iS.1, by rw [o8]; exact S8⟩ ⟨ok1, by rw [cn]; exact iN.2⟩ P8 (fun p p0 p1 => by rw [f8 26 (by omega)]; exact (iP p p0 p1).1)).mono ?_
  rintro h9 ⟨t1, t2, t3, t4, t5⟩
  have f9 : ∀ b, b ≠ 1 → b ≠ 23 → b ≠ 24 → b ≠ 39 → b ≠ h 1 2 + 3 → h9 b = h b := fun b b1 b2 b3 b4 b5 => (t5 b b1 b2 b3 b4).trans (f8 b b5)
  refine Or.inl ⟨⟨c, by omega, c4⟩, rfl, ⟨xT_f iT (f9 3 (by omega) (by omega) (by omega) (by omega) (by omega)) (f9 4 (by omega) (by omega) (by omega) (by omega) (by omega)), ?_, t1, ?_, t2, t3, ?_, ⟨ok1, by rw [cn]; exact iN.2⟩, ?_⟩, frX_of (fun b hb => f9 b (by omega) (by omega) (by omega) (by omega) (by omega))⟩
  · have e12 : h9 1 2 = h 1 2 := by rw [t4 2 (by decide), o8]
    refine ⟨by rw [e12, t4 3 (by decide), o8]; exact iS.1, ?_⟩
    rw [e12]
    exact isS_frame S8 (fun b b1 b2 => t5 b (by omega) (by omega) (by omega) (by omega))
  · unfold xO
    rw [sl_cls iN.1 (by omega)]
    exact xO_f iO (fun b b1 => f9 b (by omega) (by omega) (by omega) (by omega) (by omega))
  · have iH9 := xH_f (h' := h9) iH (fun b b1 b2 => f9 b (by omega) (by omega) (by omega) (by omega) (by omega))
    obtain ⟨z1, z2, z3, z4, z5, z6, z7, z8, z9, z10⟩ := iH9
    exact ⟨z1, by rw [sl_eU iN.1 (by omega)]; exact z2, z3, z4, z5, z6, z7, z8, z9, z10.imp id (fun q => ⟨q.1, planS_S (hi 98 (by omega)) (hi 99 (by omega)) (hi 100 (by omega)) q.2.1, q.2.2⟩)⟩
  · unfold okH
    rw [hi 98 (by omega), sl_eU iN.1 (by omega)]
    exact iK
theorem okC_sub {n m : Int} {F' L' W' : Int → Int} (ok : okC n F L W) (m0 : 0 ≤ m) (hm : m ≤ n) (e : ∀ k, 0 ≤ k → k < m → F' k = F k ∧ L' k = L k ∧ W' k = W k) : okC m F' L' W' := by
  refine ⟨⟨m0, by have := ok.1; omega⟩, fun k k0 k1 => ?_, fun j k j0 jk k1 => ?_⟩
  · obtain ⟨e1, e2, e3⟩ := e k k0 k1
    rw [e1, e2, e3]
    exact ok.2.1 k k0 (by omega)
  · rw [(e j j0 (by omega)).1, (e k (by omega) k1).1]
    exact ok.2.2 j k j0 jk (by omega)
theorem isC_cg {c n m : Int} {F' L' W' : Int → Int} (a : isC w h c n F L W) (hm : m = n) (e : ∀ k, 0 ≤ k → k < m → F' k = F k ∧ L' k = L k ∧ W' k = W k) : isC w h c m F' L' W' := by
  subst hm
  refine ⟨a.1, fun k k0 k1 => ?_⟩
  obtain ⟨e1, e2, e3⟩ := e k k0 k1
  rw [e1, e2, e3]
  exact a.2 k k0 k1
/-- at first, by hand -/
theorem okH_0 (iN : okS S ∧ cN S ≤ 200) : okH S (g0 S) (fun _ => 0) (cL S) (cW S) (fun _ => 0) := by
  have k3 := iN.1.2.2.1
  have eb := eU_r S 0
  obtain ⟨okc, hL⟩ := inv_ok iN
  have e0 : g0 S 0 = eU S 0 := rfl
  have e4 : g0 S 4 = 0 := rfl
  have e5 : g0 S 5 = 0 := rfl
  have e6 : g0 S 6 = 0 := rfl
  have e8 : g0 S 8 = -1 := rfl
  have e9 : g0 S 9 = 0 := rfl
  have e10 : g0 S 10 = 2 := rfl
  have z : ∀ k, 0 ≤ k → k < eU S 0 → cF S k = 0 := fun k k0 k1 => by
    have a := (eU_iff iN.1 (u := 0) (by omega) k0 (by omega)).mp k1
    have b := (cFT_r iN.1 k0 (show k < cN S by omega)).1
    omega
  unfold okH
  rw [e0, e4, e5, e6, e8, e9, e10]
  refine ⟨okC_sub okc eb.1 eb.2 (fun k k0 k1 => ⟨(z k k0 k1).symm, rfl, rfl⟩), fun k k0 k1 => ⟨hL k k0 (by omega), Int.le_refl 0⟩, by omega, by omega, by omega, by omega, by omega, by omega, by omega, by omega, fun k k0 k1 => ?_, fun k k0 k1 => by omega⟩
  have b := (okc.2.1 k k0 (by omega)).1
  omega
def txtX (w : WS) (h h' : AH) (S g F L W At : Int → Int) (x : Int) (r : R5) : Prop := h' 2 1 = r.1 ∧ h' 2 2 = r.2.1 ∧ h' 3 1 = 0 ∧ (∀ b, (b < 1 ∨ 64 < b) → h' b = h b) ∧ ((r.1 ≠ 0 ∧ x = -1 ∧ invX w h' S g F L W At) ∨ (r.1 = 0 ∧ x = r.2.2.2.1 97 ∧ invX w h' r.2.2.2.1 (g0 r.2.2.2.1) (fun _ => 0) (cL r.2.2.2.1) (cW r.2.2.2.1) (fun _ => 0)))
theorem c_X8_text (sA : shA w) (I : invX w h S g F L W At) : CI mX8_text [vR 1] w h (fun x h' => txtX w h h' S g F L W At x (pAll (h 3 1) (h 4))) := by
  obtain ⟨iT, iS, iC, iO, iP, iR, iH, iN, iK⟩ := id I
  have n0 := iT.1
  have os : h 1 3 = 5 ∨ h 1 3 = 13 := by have := iS.1; omega
  refine e_X8_text (r_X8_text_0 sA ?_)
  refine (c_X3_read (n := h 3 1) (B := h 4) sA os ⟨n0, rfl, iT.2⟩ rfl).mono ?_
  rintro x h1 ⟨ex, r1, r2, r3, r4, r5⟩
  obtain ⟨ga, gb⟩ := pAll_g (n := h 3 1) (B := h 4) n0
  refine (c_X6_cut (fa_tape sA).1 (by decide) (by rw [r5]; omega)).mono ?_
  intro h3 e3
  rw [show max 0 (min 0 (h1 3 1)) = 0 by rw [r5]; omega] at e3
  have f3 : ∀ b, b ≠ 2 → b ≠ 3 → (b < h 1 3 ∨ h 1 3 + 7 < b) → h3 b = h b := fun b b1 b2 b3 => by rw [e3, st_row _ _ _ b2]; exact r4 b b1 b2 b3
  have g2 : h3 2 = h1 2 := by rw [e3, st_row _ _ _ (by omega)]
  have g3 : h3 3 1 = 0 := by rw [e3, st_same]
  have x01 := ga.1
  by_cases z : (pAll (h 3 1) (h 4)).1 = 0
  · rw [if_pos z] at ex
    refine ⟨by omega, fun _ => ?_, fun c => absurd c (by omega)⟩
    obtain ⟨s1, s2, s3, s4, s5⟩ := ga.2 z
    have hc := gb z
    have hS1 := r3 z
    generalize pAll (h 3 1) (h 4) = r at *
    have nN : okS r.2.2.2.1 ∧ cN r.2.2.2.1 ≤ 200 := ⟨s1, by rw [cN_eq s1]; exact hc⟩
    intro h5 e5 h7 e7
    have f7 : ∀ b, b ≠ 1 → h7 b = h3 b := fun b hb => by rw [e7, st_row _ _ _ hb, e5, st_row _ _ _ hb]
    have a2 : h7 1 2 = h 1 3 := by rw [e7, st_slot _ _ _ _ (by decide), e5, st_same, f3 1 (by omega) (by omega) (by omega)]
    have a3 : h7 1 3 = h 1 2 := by rw [e7, st_same, f3 1 (by omega) (by omega) (by omega)]
    have S7 : isS h7 (h 1 3) r.2.2.2.1 := isS_frame hS1 (fun b b1 b2 => by rw [f7 b (by omega), e3, st_row _ _ _ (by omega)])
    rw [a2]
    have hs := fa_set sA os
    refine (c_X0_gather (fa_calls21 sA) hs S7 s1 nN.2 (by omega)).mono ?_
    rintro h9 ⟨p9, f9⟩
    have a9 : h9 1 = h7 1 := f9 1 (by omega)
    rw [a9, a2]
    have S9 : isS h9 (h 1 3) r.2.2.2.1 := isS_frame S7 (fun b b1 b2 => f9 b (by omega))
    refine (c_X0_gather (fa_calls55 sA) hs S9 s1 nN.2 (by omega)).mono ?_
    rintro h10 ⟨p10, f10⟩
    have S10 : isS h10 (h 1 3) r.2.2.2.1 := isS_frame S9 (fun b b1 b2 => f10 b (by omega))
    have b10 : h10 1 = h7 1 := (f10 1 (by omega)).trans a9
    have xs10 : xS h10 r.2.2.2.1 := ⟨by rw [b10, a2, a3]; have := iS.1; omega, by rw [b10, a2]; exact S10⟩
    have P10 : isP h10 21 (clsA r.2.2.2.1) := by
      unfold isP
      rw [f10 21 (by omega), f10 (21 + 1) (by omega), f10 (21 + 4) (by omega)]
      exact p9
    have e26 : h10 26 = h 26 := by rw [f10 26 (by omega), f9 26 (by omega), f7 26 (by omega), f3 26 (by omega) (by omega) (by omega)]
    refine (c_X8_takeClasses sA xs10 nN P10 (fun p p0 p1 => by rw [e26]; exact (iP p p0 p1).1)).mono ?_
    rintro h11 ⟨t1, t2, t3, t4, t5⟩
    obtain ⟨okc, hL⟩ := inv_ok nN
    refine (c_X1_begin (fa_hand sA) (fa_calls21 sA) t1.1 okc nN.2 (by omega)).mono ?_
    rintro h12 ⟨e, ⟨c1, c2, c3, c4, c5, c6, c7, c8⟩, c9⟩
    obtain ⟨q2, q3, q4, q5, q6, q7, q8, q9, q10, q11⟩ := begH_f h11 44
    have fo : ∀ b, (b < 44 ∨ 49 < b) → h12 b = h11 b := fun b hb => (c8 b (by omega)).trans (begH_o h11 44 (by omega) (by omega))
    have ee : e = eU r.2.2.2.1 0 := by
      refine eU_one s1 (by omega) c1.1 c1.2 (fun k k0 k1 => ?_) (fun k k0 k1 => ?_)
      · have := c2 k k0 k1; rw [q9] at this; omega
      · have b := okc.2.1 e (by omega)
        rcases c9 with c9 | c9
        · omega
        · have b := (okc.2.1 e c1.1 (by omega)).1
          have m := okc.2.2 e k c1.1 k0 k1
          omega
    have T : h12 3 = h3 3 ∧ h12 2 = h3 2 ∧ h12 4 = h 4 := ⟨by rw [fo 3 (by omega), t5 3 (by omega) (by omega) (by omega) (by omega), f10 3 (by omega), f9 3 (by omega), f7 3 (by omega)], by rw [fo 2 (by omega), t5 2 (by omega) (by omega) (by omega) (by omega), f10 2 (by omega), f9 2 (by omega), f7 2 (by omega)], by rw [fo 4 (by omega), t5 4 (by omega) (by omega) (by omega) (by omega), f10 4 (by omega), f9 4 (by omega), f7 4 (by omega), f3 4 (by omega) (by omega) (by omega)]⟩
    have o12 : h12 1 2 = h 1 3 := by rw [fo 1 (by omega), t4 2 (by decide), b10, a2]
    have S12 : isS h12 (h 1 3) r.2.2.2.1 := isS_frame S10 (fun b b1 b2 => (fo b (by omega)).trans (t5 b (by omega) (by omega) (by omega) (by omega)))
    rw [o12]
    refine ⟨hs.1, by rw [T.2.1, g2]; exact r1, by rw [T.2.1, g2]; exact r2, by rw [T.1]; exact g3, fun b hb => by rw [fo b (by omega), t5 b (by omega) (by omega) (by omega) (by omega), f10 b (by omega), f9 b (by omega), f7 b (by omega), f3 b (by omega) (by omega) (by omega)], Or.inr ⟨z, S12.2.1, ⟨by rw [T.1]; omega, fun i i0 i1 => by rw [T.1] at i1; omega⟩, ?_, ?_, ?_, ?_, ?_, ?_, nN, okH_0 nN⟩⟩
    · exact ⟨by rw [o12, fo 1 (by omega), t4 3 (by decide), b10, a3]; have := iS.1; omega, by rw [o12]; exact S12⟩
    · exact xC_f t1 (fun b b1 b2 => fo b (by omega))
    · unfold xO isP
      rw [fo 55 (by omega), fo (55 + 1) (by omega), fo (55 + 4) (by omega), t5 55 (by omega) (by omega) (by omega) (by omega), t5 (55 + 1) (by omega) (by omega) (by omega) (by omega), t5 (55 + 4) (by omega) (by omega) (by omega) (by omega)]
      exact p10
    · exact xP_f t2 (fun b b1 b2 => fo b (by omega))
    · exact xR_f t3 (by rw [fo 1 (by omega)]) (fun b b1 b2 => fo b (by omega))
    · refine ⟨isC_cg c4 (by show eU r.2.2.2.1 0 = _; omega) (fun k k0 k1 => ?_), ?_, ?_, ?_, ?_, ?_, ?_, ?_, ?_, Or.inl ?_⟩
      · rw [ap_ge (by omega), ap_ge (by omega), ap_ge (by omega), q9, show k - 0 + 0 = k by omega]; exact ⟨rfl, rfl, rfl⟩
      · rw [c3]; exact ee
      · rw [c7 4 (by decide) (by decide), q4]; rfl
      · rw [c7 5 (by decide) (by decide), q5]; rfl
      · rw [c7 6 (by decide) (by decide), q6]; rfl
      · rw [c7 7 (by decide) (by decide), q7]; rfl
      · rw [c7 8 (by decide) (by decide), q8]; rfl
      · rw [c7 9 (by decide) (by decide), q9]; rfl
      · rw [c7 10 (by decide) (by decide), q10]; rfl
      · by_cases y : e = 0
        · rw [c5 y, q2]
        · exact c6 y
  · rw [if_neg z] at ex
    refine ⟨by omega, fun c => absurd ex c, fun _ => ?_⟩
    refine ⟨by rw [g2]; exact r1, by rw [g2]; exact r2, g3, fun b hb => f3 b (by omega) (by omega) (by omega), Or.inl ⟨z, rfl, ⟨by rw [g3]; omega, fun i i0 i1 => by rw [g3] at i1; omega⟩, ?_, xC_f iC (fun b b1 b2 => f3 b (by omega) (by omega) (by omega)), xO_f iO (fun b b1 => f3 b (by omega) (by omega) (by omega)), xP_f iP (fun b b1 b2 => f3 b (by omega) (by omega) (by omega)), xR_f iR (by rw [f3 1 (by omega) (by omega) (by omega)]) (fun b b1 b2 => f3 b (by omega) (by omega) (by omega)), xH_f iH (fun b b1 b2 => f3 b (by omega) (by omega) (by omega)), iN, iK⟩⟩
    have e1 : h3 1 = h 1 := f3 1 (by omega) (by omega) (by omega)
    refine ⟨by rw [e1]; exact iS.1, ?_⟩
    rw [e1]
    exact isS_frame iS.2 (fun b b1 b2 => f3 b (by have := iS.1; omega) (by have := iS.1; omega) (by have := iS.1; omega))
end
