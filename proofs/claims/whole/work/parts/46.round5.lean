section
variable {w : WS} {h : AH} {r o : Int} {S : Int → Int}
theorem c_X4_tickAt {H p k : Int} {m : Nat} (sr : shRound w r) (ok : okS S) (any : anyT S) (hp : perH S H) (hr : h r 2 = H) (hH : H ≤ 360) (hR : ∀ u, 0 ≤ u → u < H → h (r + 2) u = nl S u - u) (h5 : h r 5 = p) (h4 : h r 4 = m) (hm : (m : Int) ≤ H) (h0 : 0 ≤ p) (h1 : p < H) (k0 : 0 ≤ k) (k1 : k < m) : CI mX4_tickAt [vR r, vI k] w h (fun x h' => x = itn S k.toNat p % H ∧ h' = h) := by
  obtain ⟨s0, f0, f1, ⟨t1, t2⟩, l1, l2⟩ := sr
  have H0 := hp.1
  have key : ∀ (d j : Nat), j + d = k.toNat → XI mX4_tickAt 21 [some (vR r), some (vI k), some (vI (itn S j p % H)), some (vI j)] [] w h (fun x h' => x = itn S k.toNat p % H ∧ h' = h) := by
    intro d
    induction d with
    | zero =>
      intro j hj
      refine r_X4_tickAt_21 ⟨by omega, by omega, fun q => ⟨by rw [show j = k.toNat by omega], rfl⟩, fun q => absurd q (by omega)⟩
    | succ d ih =>
      intro j hj
      have g := itn_ge ok any h0 j
      have m1 := Int.emod_nonneg (itn S j p) (show H ≠ 0 by omega)
      have m2 := Int.emod_lt_of_pos (itn S j p) H0
      have n1 := nl_gt ok any (t := itn S j p % H) (by omega)
      have ra := hR (itn S j p % H) m1 m2
      refine r_X4_tickAt_21 ?_
      rw [f1, hr, l2, ra]
      refine ⟨by omega, by omega, fun q => absurd q (by omega), fun q => ⟨s0, by omega, fun q2 => absurd q2 (by omega), fun q2 => ⟨by omega, fun q3 => absurd q3 (by omega), fun q3 => ⟨t2, by decide, fun q4 => absurd q4 (by omega), fun q4 => ⟨m1, by omega, by omega, by omega, ?_⟩⟩⟩⟩⟩
      intro y ey
      have e1 : y = itn S (j + 1) p % H := by
        have hq : itn S j p = itn S j p % H + (itn S j p / H).toNat * H := by
          have e := Int.emod_add_mul_ediv (itn S j p) H
          have nn := Int.ediv_nonneg (show 0 ≤ itn S j p by omega) (show 0 ≤ H by omega)
          rw [show (((itn S j p / H).toNat : Nat) : Int) = itn S j p / H by omega, Int.mul_comm]
          omega
        have per : ∀ (c : Nat) (t : Int), 0 ≤ t → nl S (t + c * H) = nl S t + c * H := by
          intro c
          induction c with
          | zero => intro t t0; rw [show ((0 : Nat) : Int) * H = 0 by rw [Int.natCast_zero, Int.zero_mul], Int.add_zero, Int.add_zero]
          | succ c ic =>
            intro t t0
            have z : 0 ≤ (c : Int) * H := Int.mul_nonneg (by omega) (by omega)
            have e := nl_per ok any (t := t + c * H) hp (by omega)
            have e2 : (((c + 1 : Nat) : Int)) * H = c * H + H := by rw [Int.natCast_add, Int.add_mul]; omega
            have e3 := ic t t0
            rw [e2, show t + (c * H + H) = t + c * H + H by omega, e, e3]; omega
        rw [itn, ey, show itn S j p % H + (nl S (itn S j p % H) - itn S j p % H) = nl S (itn S j p % H) by omega]
        have pe := per (itn S j p / H).toNat (itn S j p % H) m1
        rw [← hq] at pe
        rw [pe, Int.add_mul_emod_self_right]
      rw [e1]
      exact ih (j + 1) (by omega)
  refine e_X4_tickAt (r_X4_tickAt_0 ?_)
  rw [h4, h5]
  refine ⟨by omega, fun q => absurd q (by omega), fun q => ⟨s0, by omega, fun q2 => ?_, fun q2 => absurd k1 q2⟩⟩
  have := key k.toNat 0 (by omega)
  rw [show itn S 0 p = p from rfl, Int.emod_eq_of_lt h0 h1] at this
  exact this
/-- how many ticks a hyperperiod has, by the class (0: no round) -/
def hypC (S : Int → Int) : Int := if hyp S (S 97).toNat = -1 then 0 else hyp S (S 97).toNat
/-- a round is asked for and may stand -/
def rdE (S : Int → Int) : Prop := 0 < hyp S (S 97).toNat ∧ cyc S (hyp S (S 97).toNat) (S 97).toNat ≤ 400
/-- what a Round holds once made -/
def rdS (S : Int → Int) (h : AH) (r : Int) : Prop := h r 2 = hypC S ∧ h r 3 = cyc S (hypC S) (S 97).toNat ∧ ((rdE S ∧ (∃ m : Nat, h r 4 = m ∧ 0 < m ∧ roundS S (hypC S) (h r 5) m) ∧ ∀ u, 0 ≤ u → u < hypC S → h (r + 2) u = nl S u - u) ∨ (¬ rdE S ∧ h r 4 = 0))
theorem hypC_r (S : Int → Int) : 0 ≤ hypC S ∧ hypC S ≤ 360 := by
  have := hyp_r S (S 97).toNat
  rw [hypC]; split <;> omega
theorem cyc_0 (S : Int → Int) : ∀ i : Nat, cyc S 0 i = 0 := by
  intro i
  induction i with
  | zero => rfl
  | succ i ih => rw [cyc, ih, Int.zero_ediv]; split <;> rfl
theorem cyc_pos (ok : okS S) {H : Int} (hp : perH S H) (h3 : H ≤ 360) : ∀ i : Nat, (i : Int) ≤ S 97 → (∃ k : Nat, k < i ∧ 0 < S (48 + k)) → 0 < cyc S H i := by
  intro i
  induction i with
  | zero => rintro - ⟨k, k1, -⟩; omega
  | succ i ih =>
    rintro hi ⟨k, k1, k2⟩
    have c0 := (cyc_r ok (H := H) ⟨by have := hp.1; omega, h3⟩ i (by omega)).1
    rw [cyc]
    by_cases e : k = i
    · rw [e] at k2
      rw [if_neg (by omega)]
      have d := hp.2 (i : Int) ⟨⟨by omega, by omega⟩, k2⟩
      have le := Int.le_of_dvd hp.1 d
      have : 0 < H / S (48 + i) := Int.ediv_pos_of_pos_of_dvd hp.1 (by omega) d
      omega
    · have := ih (by omega) ⟨k, by omega, k2⟩
      split
      · omega
      · have : 0 ≤ H / S (48 + i) := Int.ediv_nonneg (by have := hp.1; omega) (by omega)
        omega
theorem c_X4_make (sr : shRound w r) (ss : shSetup w o) (hS : isS h o S) (ok : okS S) (hd : r + 2 < o ∨ o + 7 < r) : CV mX4_make [vR r, vR o] w h (fun h' => rdS S h' r ∧ ∀ b, b ≠ r → b ≠ r + 1 → b ≠ r + 2 → h' b = h b) := by
  have s0 := sr.1
  have hr := hypC_r S
  have hT := ok.2.1
  have cr := cyc_r ok hr (S 97).toNat (by omega)
  refine e_X4_make (r_X4_make_0 ⟨s0, fun h2 e2 => ?_⟩)
  have hS2 := isS_frame hS (h' := h2) (fun b b1 b2 => by rw [e2, st_row _ _ _ (by omega)])
  refine (c_X4_hyperOf ss hS2 ok).eq ?_
  intro h6 e6
  have hS6 := isS_frame hS2 (h' := h6) (fun b b1 b2 => by rw [e6, st_row _ _ _ (by omega)])
  have r6 : h6 r 2 = hypC S := by rw [e6, st_same]; rfl
  refine (c_X4_callsOf s0 ss hS6 ok r6 hr).eq ?_
  intro h10 e10
  have hS10 := isS_frame hS6 (h' := h10) (fun b b1 b2 => by rw [e10, st_row _ _ _ (by omega)])
  have x2 : h10 r 2 = hypC S := by rw [e10, st_slot _ _ _ _ (by decide), r6]
  have x3 : h10 r 3 = cyc S (hypC S) (S 97).toNat := by rw [e10, st_same]
  have x4 : h10 r 4 = 0 := by rw [e10, st_slot _ _ _ _ (by decide), e6, st_slot _ _ _ _ (by decide), e2, st_same]
  have fr : ∀ b, b ≠ r → h10 b = h b := fun b hb => by rw [e10, st_row _ _ _ hb, e6, st_row _ _ _ hb, e2, st_row _ _ _ hb]
  rw [x3]
  refine ⟨by omega, fun q => ⟨⟨x2, x3, Or.inr ⟨?_, x4⟩⟩, fun b b1 _ _ => fr b b1⟩, fun q => ⟨fun q2 => ?_, fun q2 => ⟨⟨x2, x3, Or.inr ⟨?_, x4⟩⟩, fun b b1 _ _ => fr b b1⟩⟩⟩
  · rintro ⟨a, b⟩
    obtain ⟨p1, k, ⟨k0, k1⟩, k2⟩ := hyp_perH ok a
    have e : hypC S = hyp S (S 97).toNat := by rw [hypC, if_neg (by omega)]
    have := cyc_pos ok p1 (by omega) (S 97).toNat (by omega) ⟨k.toNat, by omega, by rw [show ((k.toNat : Nat) : Int) = k by omega]; exact k2⟩
    rw [e] at q
    omega
  · have hne : hypC S ≠ 0 := fun z => q (by rw [z]; exact cyc_0 S _)
    have e : hypC S = hyp S (S 97).toNat := by
      by_cases z : hyp S (S 97).toNat = -1
      · exact absurd (by rw [hypC, if_pos z]) hne
      · rw [hypC, if_neg z]
    obtain ⟨p1, any⟩ := hyp_perH ok (show 0 < hyp S (S 97).toNat by omega)
    rw [← e] at p1
    have rE : rdE S := ⟨by omega, by rw [← e]; exact q2⟩
    refine (c_X4_fillSlacks sr ss hS10 ok x2 ⟨by omega, hr.2⟩ hd).mono ?_
    rintro h13 ⟨g1, g2⟩
    have y2 : h13 r 2 = hypC S := by rw [g2 r (by omega)]; exact x2
    refine (c_X4_fillReach sr ok any p1 y2 hr.2 g1).mono ?_
    rintro h14 ⟨g3, g4⟩
    have z2 : h14 r = h10 r := by rw [g4 r (by omega), g2 r (by omega)]
    refine (c_X4_choose sr ok any p1 (by rw [z2]; exact x2) hr.2 g3 (by rw [z2]; exact x4)).mono ?_
    rintro h15 ⟨g5, g6, g7⟩
    exact ⟨⟨by rw [g6 2 (by decide) (by decide), z2]; exact x2, by rw [g6 3 (by decide) (by decide), z2]; exact x3, Or.inl ⟨rE, g5, fun u u0 u1 => by rw [g7 (r + 2) (by omega)]; exact g3 u u0 u1⟩⟩, fun b b1 b2 b3 => by rw [g7 b b1, g4 b b3, g2 b b2]; exact fr b b1⟩
  · rintro ⟨a, b⟩
    have e : hypC S = hyp S (S 97).toNat := by rw [hypC, if_neg (by omega)]
    rw [e] at q2
    exact q2 b
end
