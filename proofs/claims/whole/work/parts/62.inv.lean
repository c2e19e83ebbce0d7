/-! ===== what holds between two calls: the class's half =====
by hand: g 0 calls that came, g 4 rung, g 5 answered, g 6 wakes, g 8 the latest wake, g 9 now, g 10 the rule; F L W as laid; At: when it was answered -/
def wAt (F W At : Int → Int) : Nat → Int
  | 0 => 0
  | k + 1 => wAt F W At k + W k * (At k - F k)
def okH (S g F L W At : Int → Int) : Prop :=
  okC (g 0) F L W ∧ (∀ k, 0 ≤ k → k < g 0 → L k ≤ S 98 ∧ F k ≤ g 9) ∧ g 0 = eU S (g 9) + g 4 ∧ (0 ≤ g 4 ∧ g 4 ≤ 100) ∧ (0 ≤ g 5 ∧ g 5 ≤ g 0) ∧ (0 ≤ g 6 ∧ g 6 ≤ g 5) ∧ (-1 ≤ g 8 ∧ g 8 ≤ g 9) ∧ (0 ≤ g 9 ∧ g 9 ≤ S 98 + 1) ∧ (0 ≤ g 10 ∧ g 10 ≤ 2) ∧ (g 8 = g 9 → g 5 = g 0) ∧ (∀ k, g 5 ≤ k → k < g 0 → g 9 ≤ L k) ∧ (∀ k, 0 ≤ k → k < g 5 → F k ≤ At k ∧ At k ≤ g 9)
def xT (h : AH) : Prop := (0 ≤ h 3 1 ∧ h 3 1 ≤ 600) ∧ ∀ i, 0 ≤ i → i < h 3 1 → -128 ≤ h 4 i ∧ h 4 i ≤ 127
def xS (h : AH) (S : Int → Int) : Prop := ((h 1 2 = 5 ∧ h 1 3 = 13) ∨ (h 1 2 = 13 ∧ h 1 3 = 5)) ∧ isS h (h 1 2) S
def xC (w : WS) (h : AH) (S : Int → Int) : Prop := isC w h 21 (cN S) (cF S) (cL S) (cW S) ∧ ∀ k, 0 ≤ k → k < cN S → h 25 k = cT S k
def xO (h : AH) (S : Int → Int) : Prop := isP h 55 (clsA S)
def xP (h : AH) (S : Int → Int) : Prop := ∀ p, 0 ≤ p → p < 6 → h 26 p = 27 + 2 * p ∧ (h 39 p = 0 ∨ (h 39 p = 1 ∧ planS (cN S) (cF S) (cL S) (cW S) S p (h (27 + 2 * p) 1) (h (28 + 2 * p)) ∧ h (27 + 2 * p) 1 ≤ cN S))
def xR (h : AH) (S : Int → Int) : Prop := h 1 10 = 0 ∨ (h 1 10 = 1 ∧ rdS S h 52)
def xH (w : WS) (h : AH) (S g F L W At : Int → Int) : Prop :=
  isC w h 45 (g 0) F L W ∧ h 44 3 = eU S (g 9) ∧ h 44 4 = g 4 ∧ h 44 5 = g 5 ∧ h 44 6 = g 6 ∧ h 44 7 = wAt F W At (g 5).toNat ∧ h 44 8 = g 8 ∧ h 44 9 = g 9 ∧ h 44 10 = g 10 ∧ (h 44 2 = 0 ∨ (h 44 2 = 1 ∧ planS (g 0) F L W S 1 (h 50 1) (h 51) ∧ h 50 1 ≤ g 0))
def invX (w : WS) (h : AH) (S g F L W At : Int → Int) : Prop := xT h ∧ xS h S ∧ xC w h S ∧ xO h S ∧ xP h S ∧ xR h S ∧ xH w h S g F L W At ∧ (okS S ∧ cN S ≤ 200) ∧ okH S g F L W At
section
variable {w : WS} {h h' : AH} {S g F L W At : Int → Int}
theorem xT_f (a : xT h) (e3 : h' 3 = h 3) (e4 : h' 4 = h 4) : xT h' := by
  unfold xT
  rw [e3, e4]; exact a
theorem xS_f (a : xS h S) (e1 : h' 1 2 = h 1 2 ∧ h' 1 3 = h 1 3) (e : ∀ b, 5 ≤ b → b ≤ 20 → h' b = h b) : xS h' S := by
  unfold xS
  rw [e1.1, e1.2]
  exact ⟨a.1, isS_frame a.2 (fun b b1 b2 => e b (by have := a.1; omega) (by have := a.1; omega))⟩
theorem xC_f (a : xC w h S) (e : ∀ b, 21 ≤ b → b ≤ 25 → h' b = h b) : xC w h' S := ⟨isC_frame a.1 (fun b b1 b2 => e b b1 b2), fun k k0 k1 => by rw [e 25 (by decide) (by decide)]; exact a.2 k k0 k1⟩
theorem xO_f (a : xO h S) (e : ∀ b, b = 55 ∨ b = 56 ∨ b = 59 → h' b = h b) : xO h' S := by
  unfold xO isP
  rw [e 55 (by decide), show (55 : Int) + 1 = 56 from rfl, show (55 : Int) + 4 = 59 from rfl, e 56 (by decide), e 59 (by decide)]
  exact a
theorem xP_f (a : xP h S) (e : ∀ b, 26 ≤ b → b ≤ 39 → h' b = h b) : xP h' S := by
  intro p p0 p1
  rw [e 26 (by decide) (by decide), e 39 (by decide) (by decide), e (27 + 2 * p) (by omega) (by omega), e (28 + 2 * p) (by omega) (by omega)]
  exact a p p0 p1
theorem rdS_f {r : Int} (a : rdS S h r) (e : ∀ b, r ≤ b → b ≤ r + 2 → h' b = h b) : rdS S h' r := by
  unfold rdS
  rw [e r (by omega) (by omega), e (r + 2) (by omega) (by omega)]
  exact a
theorem xR_f (a : xR h S) (e1 : h' 1 10 = h 1 10) (e : ∀ b, 52 ≤ b → b ≤ 54 → h' b = h b) : xR h' S := by
  unfold xR
  rw [e1]
  exact a.imp id (fun q => ⟨q.1, rdS_f q.2 (fun b b1 b2 => e b b1 (by omega))⟩)
theorem xH_f (a : xH w h S g F L W At) (e : ∀ b, 44 ≤ b → b ≤ 51 → h' b = h b) : xH w h' S g F L W At := by
  unfold xH
  rw [e 44 (by decide) (by decide), e 50 (by decide) (by decide), e 51 (by decide) (by decide)]
  exact ⟨isC_frame a.1 (fun b b1 b2 => e b (by omega) (by omega)), a.2⟩
theorem xS_o (a : xS h S) : h 1 2 = 5 ∨ h 1 2 = 13 := by have := a.1; omega
theorem fa_so (sA : shA w) (a : xS h S) : shSetup w (h 1 2) := fa_set sA (xS_o a)
/-- the calls are as they can be -/
theorem inv_ok (a : okS S ∧ cN S ≤ 200) : okC (cN S) (cF S) (cL S) (cW S) ∧ ∀ k, 0 ≤ k → k < cN S → cL S k ≤ S 98 := ⟨okC_S a.1 a.2, fun k _ _ => by unfold cL; omega⟩
/-- nothing else has changed but the planner, the plans' rows, the hindsight, the round and the others -/
def frX (h h' : AH) : Prop := h' 2 = h 2 ∧ h' 3 = h 3 ∧ h' 4 = h 4 ∧ ∀ b, (b < 1 ∨ 64 < b) → h' b = h b
theorem frX_rfl (h : AH) : frX h h := ⟨rfl, rfl, rfl, fun _ _ => rfl⟩
theorem frX_of (e : ∀ b, (b = 2 ∨ b = 3 ∨ b = 4 ∨ b < 1 ∨ 64 < b) → h' b = h b) : frX h h' := ⟨e 2 (by decide), e 3 (by decide), e 4 (by decide), fun b hb => e b (by omega)⟩
theorem frX_tr {h1 : AH} (a : frX h h1) (b : frX h1 h') : frX h h' := ⟨b.1.trans a.1, b.2.1.trans a.2.1, b.2.2.1.trans a.2.2.1, fun x hx => (b.2.2.2 x hx).trans (a.2.2.2 x hx)⟩
/-- a plan -/
theorem c_X8_planOf {p : Int} (sA : shA w) (I : invX w h S g F L W At) (hp : inR p) : CR mX8_planOf [vR 1, vI p] w h (fun x h' => invX w h' S g F L W At ∧ frX h h' ∧ ((x = 0 ∧ ¬ (0 ≤ p ∧ p < 6)) ∨ (x = 27 + 2 * p ∧ (0 ≤ p ∧ p < 6) ∧ planS (cN S) (cF S) (cL S) (cW S) S p (h' x 1) (h' (x + 1)) ∧ h' x 1 ≤ cN S))) := by
  obtain ⟨iT, iS, iC, iO, iP, iR, iH, iN, iK⟩ := id I
  refine e_X8_planOf (r_X8_planOf_0 sA ⟨hp, fun c => ⟨I, frX_rfl h, Or.inl ⟨rfl, by omega⟩⟩, fun c => ⟨fun c2 => ⟨I, frX_rfl h, Or.inl ⟨rfl, by omega⟩⟩, fun c2 => ⟨fun c3 => ?_, fun c3 => absurd c3 (by omega)⟩⟩⟩)
  obtain ⟨e26, e39⟩ := iP p (by omega) (by omega)
  obtain ⟨ok, hL⟩ := inv_ok iN
  have hw := fa_plans sA p (by omega) (by omega)
  rw [e26, show (28 : Int) + 2 * p = 27 + 2 * p + 1 by omega] at *
  refine ⟨by omega, by omega, fun c4 => absurd c4 (by omega), fun c4 => ⟨by omega, fun c5 => ?_, fun c5 => ?_⟩⟩
  · rcases e39 with q | ⟨q1, q2, q3⟩
    · exact absurd q c5
    · exact ⟨I, frX_rfl h, Or.inr ⟨rfl, by omega, q2, q3⟩⟩
  · have hs := fa_so sA iS
    have ho := xS_o iS
    refine (c_X2_make (fa_plan sA) hw.1 (fa_calls21 sA) hs iC.1 ok iS.2 iN.1 hL (by rw [hw.2]; exact iN.2) (by omega) (by omega) (by omega) (by omega) (by omega) (by omega)).mono ?_
    rintro h5 ⟨m1, m2, m3⟩ h6 e6
    have f6 : ∀ b, b ≠ 39 → (b < 40 ∨ 43 < b) → b ≠ 27 + 2 * p → b ≠ 27 + 2 * p + 1 → h6 b = h b := fun b b0 b1 b2 b3 => by rw [e6, st_row _ _ _ b0]; exact m3 b (by omega) b2 b3
    have g1 : h6 (27 + 2 * p) = h5 (27 + 2 * p) := by rw [e6, st_row _ _ _ (by omega)]
    have g2 : h6 (27 + 2 * p + 1) = h5 (27 + 2 * p + 1) := by rw [e6, st_row _ _ _ (by omega)]
    refine ⟨⟨xT_f iT (f6 3 (by omega) (by omega) (by omega) (by omega)) (f6 4 (by omega) (by omega) (by omega) (by omega)), xS_f iS ⟨by rw [f6 1 (by omega) (by omega) (by omega) (by omega)], by rw [f6 1 (by omega) (by omega) (by omega) (by omega)]⟩ (fun b b1 b2 => f6 b (by omega) (by omega) (by omega) (by omega)), xC_f iC (fun b b1 b2 => f6 b (by omega) (by omega) (by omega) (by omega)), xO_f iO (fun b b1 => f6 b (by omega) (by omega) (by omega) (by omega)), ?_, xR_f iR (by rw [f6 1 (by omega) (by omega) (by omega) (by omega)]) (fun b b1 b2 => f6 b (by omega) (by omega) (by omega) (by omega)), xH_f iH (fun b b1 b2 => f6 b (by omega) (by omega) (by omega) (by omega)), iN, iK⟩, frX_of (fun b hb => f6 b (by omega) (by omega) (by omega) (by omega)), Or.inr ⟨rfl, by omega, by rw [g1, g2]; exact m1, by rw [g1]; exact m2⟩⟩
    intro q q0 q1
    refine ⟨by rw [f6 26 (by omega) (by omega) (by omega) (by omega)]; exact (iP q q0 q1).1, ?_⟩
    by_cases eq : q = p
    · subst eq
      right
      refine ⟨by rw [e6, st_same], ?_, by rw [g1]; exact m2⟩
      rw [show (28 : Int) + 2 * q = 27 + 2 * q + 1 by omega, g1, g2]
      exact m1
    · have e1 : h6 39 q = h 39 q := by rw [e6, st_slot _ _ _ _ eq, m3 39 (by omega) (by omega) (by omega)]
      rw [e1, f6 (27 + 2 * q) (by omega) (by omega) (by omega) (by omega), f6 (28 + 2 * q) (by omega) (by omega) (by omega) (by omega)]
      exact (iP q q0 q1).2
/-- the round -/
theorem c_X8_roundMade (sA : shA w) (I : invX w h S g F L W At) : CR mX8_roundMade [vR 1] w h (fun x h' => x = 52 ∧ invX w h' S g F L W At ∧ frX h h' ∧ rdS S h' 52) := by
  obtain ⟨iT, iS, iC, iO, iP, iR, iH, iN, iK⟩ := id I
  refine e_X8_roundMade (r_X8_roundMade_0 sA ⟨by rcases iR with q | q <;> omega, fun c => ?_, fun c => ?_⟩)
  · rcases iR with q | q
    · exact absurd q c
    · exact ⟨rfl, I, frX_rfl h, q.2⟩
  · have ho := xS_o iS
    refine (c_X4_make (fa_round52 sA) (fa_so sA iS) iS.2 iN.1 (by omega)).mono ?_
    rintro h2 ⟨m1, m2⟩ h3 e3
    have f3 : ∀ b, b ≠ 1 → b ≠ 52 → b ≠ 53 → b ≠ 54 → h3 b = h b := fun b b0 b1 b2 b3 => by rw [e3, st_row _ _ _ b0]; exact m2 b b1 (by omega) (by omega)
    have f1 : ∀ j, j ≠ 10 → h3 1 j = h 1 j := fun j hj => by rw [e3, st_slot _ _ _ _ hj, m2 1 (by omega) (by omega) (by omega)]
    have r3 : rdS S h3 52 := rdS_f m1 (fun b b1 b2 => by rw [e3, st_row _ _ _ (by omega)])
    exact ⟨rfl, ⟨xT_f iT (f3 3 (by omega) (by omega) (by omega) (by omega)) (f3 4 (by omega) (by omega) (by omega) (by omega)), xS_f iS ⟨f1 2 (by decide), f1 3 (by decide)⟩ (fun b b1 b2 => f3 b (by omega) (by omega) (by omega) (by omega)), xC_f iC (fun b b1 b2 => f3 b (by omega) (by omega) (by omega) (by omega)), xO_f iO (fun b b1 => f3 b (by omega) (by omega) (by omega) (by omega)), xP_f iP (fun b b1 b2 => f3 b (by omega) (by omega) (by omega) (by omega)), Or.inr ⟨by rw [e3, st_same], r3⟩, xH_f iH (fun b b1 b2 => f3 b (by omega) (by omega) (by omega) (by omega)), iN, iK⟩, frX_of (fun b hb => f3 b (by omega) (by omega) (by omega) (by omega)), r3⟩
end
