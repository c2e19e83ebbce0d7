section
variable {w : WS} {h : AH} {r o : Int} {S : Int → Int}
theorem c_X4_leastShared {a b : Int} (ha : 1 ≤ a ∧ a ≤ 360) (hb : 1 ≤ b ∧ b ≤ 60) : CI mX4_leastShared [vI a, vI b] w h (fun x h' => x = lc a b ∧ h' = h) := by
  refine e_X4_leastShared (r_X4_leastShared_0 ?_)
  have key : ∀ (d : Nat) (i : Int), i + d = b → 1 ≤ i → (∀ j, 1 ≤ j → j < i → (a * j) % b ≠ 0) → XI mX4_leastShared 2 [some (vI a), some (vI b), some (vI i)] [] w h (fun x h' => x = lc a b ∧ h' = h) := by
    intro d
    induction d with
    | zero =>
      intro i hi i1 hj
      have pr : 0 ≤ a * i ∧ a * i ≤ 21600 := by
        have h1 := Int.mul_nonneg (show 0 ≤ a by omega) (show 0 ≤ i by omega)
        have h2 := Int.mul_le_mul (show a ≤ 360 by omega) (show i ≤ 60 by omega) (by omega) (by omega)
        omega
      have hz : (a * i) % b = 0 := by rw [show i = b by omega]; exact Int.mul_emod_left _ _
      refine r_X4_leastShared_2 ⟨by omega, by omega, fun q => absurd q (by omega), fun q => ⟨fun q2 => absurd q2 (by omega), fun q2 => ⟨by omega, by omega, by rw [hz]; decide, fun q3 => absurd hz q3, fun q3 => ⟨?_, rfl⟩⟩⟩⟩
      have dv := lc_dvd (a := a) (b := b) (by omega) (by omega)
      have lp := lc_pos (a := a) (b := b) (by omega) (by omega)
      have ap : 0 < a * i := Int.mul_pos (by omega) (by omega)
      have le := Int.le_of_dvd ap (lc_le (by omega) (by omega) ap (Int.dvd_mul_right a i) (Int.dvd_of_emod_eq_zero hz))
      obtain ⟨j, ej⟩ := dv.1
      have j0 : 1 ≤ j := by
        by_cases c : 1 ≤ j
        · exact c
        · have := Int.mul_nonneg (show 0 ≤ a by omega) (show 0 ≤ -j by omega)
          rw [Int.mul_neg] at this
          omega
      have ji : j ≤ i := by
        by_cases c : j ≤ i
        · exact c
        · have := Int.mul_lt_mul_of_pos_left (show i < j by omega) (show 0 < a by omega)
          omega
      by_cases e : j = i
      · rw [ej, e]
      · exact absurd (by rw [← ej]; exact Int.emod_eq_zero_of_dvd dv.2) (hj j j0 (by omega))
    | succ d ih =>
      intro i hi i1 hj
      have pr : 0 ≤ a * i ∧ a * i ≤ 21600 := by
        have h1 := Int.mul_nonneg (show 0 ≤ a by omega) (show 0 ≤ i by omega)
        have h2 := Int.mul_le_mul (show a ≤ 360 by omega) (show i ≤ 60 by omega) (by omega) (by omega)
        omega
      have m1 := Int.emod_nonneg (a * i) (show b ≠ 0 by omega)
      have m2 := Int.emod_lt_of_pos (a * i) (show 0 < b by omega)
      refine r_X4_leastShared_2 ⟨by omega, by omega, fun q => absurd q (by omega), fun q => ⟨fun q2 => absurd q2 (by omega), fun q2 => ⟨by omega, by omega, by omega, fun q3 => ?_, fun hz => ⟨?_, rfl⟩⟩⟩⟩
      · refine ih (i + 1) (by omega) (by omega) (fun j j0 j1 => ?_)
        by_cases e : j = i
        · rw [e]; exact q3
        · exact hj j j0 (by omega)
      · have dv := lc_dvd (a := a) (b := b) (by omega) (by omega)
        have lp := lc_pos (a := a) (b := b) (by omega) (by omega)
        have ap : 0 < a * i := Int.mul_pos (by omega) (by omega)
        have le := Int.le_of_dvd ap (lc_le (by omega) (by omega) ap (Int.dvd_mul_right a i) (Int.dvd_of_emod_eq_zero hz))
        obtain ⟨j, ej⟩ := dv.1
        have j0 : 1 ≤ j := by
          by_cases c : 1 ≤ j
          · exact c
          · have := Int.mul_nonneg (show 0 ≤ a by omega) (show 0 ≤ -j by omega)
            rw [Int.mul_neg] at this
            omega
        have ji : j ≤ i := by
          by_cases c : j ≤ i
          · exact c
          · have := Int.mul_lt_mul_of_pos_left (show i < j by omega) (show 0 < a by omega)
            omega
        by_cases e : j = i
        · rw [ej, e]
        · exact absurd (by rw [← ej]; exact Int.emod_eq_zero_of_dvd dv.2) (hj j j0 (by omega))
  exact key (b - 1).toNat 1 (by omega) (by omega) (fun j j0 j1 => by omega)
theorem hyp_stop (S : Int → Int) : ∀ (i j : Nat), i ≤ j → hyp S i = -1 → hyp S j = -1 := by
  intro i j
  induction j with
  | zero => intro h1 h2; rw [show i = 0 by omega] at h2; exact h2
  | succ j ih =>
    intro h1 h2
    by_cases e : i = j + 1
    · rw [← e]; exact h2
    · rw [hyp_s, if_pos (ih (by omega) h2)]
theorem lc_r {a b : Int} (ha : 1 ≤ a ∧ a ≤ 360) (hb : 1 ≤ b ∧ b ≤ 60) : lc a b ≤ 21600 := by
  have ap : 0 < a * b := Int.mul_pos (by omega) (by omega)
  have le := Int.le_of_dvd ap (lc_le (by omega) (by omega) ap (Int.dvd_mul_right a b) (Int.dvd_mul_left a b))
  have h2 := Int.mul_le_mul (show a ≤ 360 by omega) (show b ≤ 60 by omega) (by omega) (by omega)
  omega
theorem c_X4_hyperOf (ss : shSetup w o) (hS : isS h o S) (ok : okS S) : CI mX4_hyperOf [vR o] w h (fun x h' => x = (if hyp S (S 97).toNat = -1 then 0 else hyp S (S 97).toNat) ∧ h' = h) := by
  have hT := ok.2.1
  refine e_X4_hyperOf (r_X4_hyperOf_0 ?_)
  have key : ∀ (d i : Nat) (x : Int), i + d = (S 97).toNat → x = hyp S i → x ≠ -1 → XI mX4_hyperOf 4 [some (vR o), some (vI x), some (vI i), none] [] w h (fun x h' => x = (if hyp S (S 97).toNat = -1 then 0 else hyp S (S 97).toNat) ∧ h' = h) := by
    intro d
    induction d with
    | zero =>
      intro i x hi hx hx1
      refine r_X4_hyperOf_4 ?_
      rw [hS.2.1]
      refine ⟨ss.1, by omega, by omega, fun q => ⟨?_, rfl⟩, fun q => absurd q (by omega)⟩
      rw [show (S 97).toNat = i by omega, ← hx, if_neg hx1]
    | succ d ih =>
      intro i x hi hx hx1
      obtain ⟨-, b2, -⟩ := ok.2.2.2.2.2.2 i (by omega) (by omega)
      obtain ⟨-, g2, -⟩ := hS.2.2.2.2.2.2 i (by omega) (by omega)
      have hr := (hyp_r S i).resolve_left (by omega)
      refine r_X4_hyperOf_4 ?_
      rw [hS.2.1, g2, if_pos (show 0 ≤ (i : Int) ∧ (i : Int) < S 97 from ⟨by omega, by omega⟩)]
      refine ⟨ss.1, by omega, by omega, fun q => absurd q (by omega), fun q => ⟨ss, by omega, ?_⟩⟩
      rintro y rfl
      have over : ¬ S (48 + (i : Int)) ≤ 0 → ¬ hyp1 S i ≤ 360 → (0 : Int) = (if hyp S (S 97).toNat = -1 then 0 else hyp S (S 97).toNat) := fun z1 z2 => by
        have e : hyp S (i + 1) = -1 := by rw [hyp_s, if_neg (by omega), if_neg z1, if_neg z2]
        rw [hyp_stop S (i + 1) (S 97).toNat (by omega) e, if_pos rfl]
      have next : ¬ S (48 + (i : Int)) ≤ 0 → ∀ z, z = hyp1 S i → z ≤ 360 → 0 < z → XI mX4_hyperOf 4 [some (vR o), some (vI z), some (vI ((i : Int) + 1)), none] [] w h (fun x h' => x = (if hyp S (S 97).toNat = -1 then 0 else hyp S (S 97).toNat) ∧ h' = h) := fun z1 z z2 z3 z4 =>
        ih (i + 1) z (by omega) (by rw [hyp_s, if_neg (by omega), if_neg z1, ← z2, if_pos z3]) (by omega)
      refine ⟨by omega, fun q2 => ih (i + 1) x (by omega) (by rw [hyp_s, if_neg (by omega), if_pos q2, hx]) hx1, fun q2 => ⟨by omega, fun q3 => ?_, fun q3 => ⟨fun q4 => absurd q4 (by omega), fun q4 => ⟨fun q5 => next q2 _ (by unfold hyp1; rw [if_pos (by omega)]) q5 (by omega), fun q5 => absurd q5 (by omega)⟩⟩⟩⟩
      refine (c_X4_leastShared (by omega) (by omega)).eq ?_
      have e1 : lc x (S (48 + (i : Int))) = hyp1 S i := by unfold hyp1; rw [if_neg (by omega), hx]
      have lp := lc_pos (a := x) (b := S (48 + (i : Int))) (by omega) (by omega)
      have lr := lc_r (a := x) (b := S (48 + (i : Int))) (by omega) (by omega)
      exact ⟨by omega, fun q4 => absurd q4 (by omega), fun q4 => ⟨fun q5 => next q2 _ e1 q5 lp, fun q5 => ⟨over q2 (by rw [← e1]; exact q5), rfl⟩⟩⟩
  exact key (S 97).toNat 0 0 (by omega) rfl (by decide)
theorem cyc_r (ok : okS S) {H : Int} (hH : 0 ≤ H ∧ H ≤ 360) : ∀ i : Nat, (i : Int) ≤ S 97 → 0 ≤ cyc S H i ∧ cyc S H i ≤ 360 * i := by
  intro i
  induction i with
  | zero => intro _; exact ⟨Int.le_refl _, Int.le_refl _⟩
  | succ i ih =>
    intro hi
    have := ih (by omega)
    obtain ⟨-, b2, -⟩ := ok.2.2.2.2.2.2 i (by omega) (by omega)
    rw [cyc]
    split
    · omega
    · have d1 := Int.ediv_nonneg hH.1 b2.1
      have d2 := Int.ediv_le_self (S (48 + (i : Int))) hH.1
      omega
theorem c_X4_callsOf {H : Int} (s0 : wt w r = 14) (ss : shSetup w o) (hS : isS h o S) (ok : okS S) (hr : h r 2 = H) (hH : 0 ≤ H ∧ H ≤ 360) : CI mX4_callsOf [vR r, vR o] w h (fun x h' => x = cyc S H (S 97).toNat ∧ h' = h) := by
  have hT := ok.2.1
  refine e_X4_callsOf (r_X4_callsOf_0 ?_)
  have key : ∀ (d i : Nat) (x : Int), i + d = (S 97).toNat → x = cyc S H i → XI mX4_callsOf 4 [some (vR r), some (vR o), some (vI x), some (vI i), none] [] w h (fun x h' => x = cyc S H (S 97).toNat ∧ h' = h) := by
    intro d
    induction d with
    | zero =>
      intro i x hi hx
      refine r_X4_callsOf_4 ?_
      rw [hS.2.1]
      exact ⟨ss.1, by omega, by omega, fun q => ⟨by rw [hx]; congr 1, rfl⟩, fun q => absurd q (by omega)⟩
    | succ d ih =>
      intro i x hi hx
      obtain ⟨-, b2, -⟩ := ok.2.2.2.2.2.2 i (by omega) (by omega)
      obtain ⟨-, g2, -⟩ := hS.2.2.2.2.2.2 i (by omega) (by omega)
      refine r_X4_callsOf_4 ?_
      rw [hS.2.1, g2, if_pos ⟨by omega, by omega⟩, hr]
      refine ⟨ss.1, by omega, by omega, fun q => absurd q (by omega), fun q => ⟨ss, by omega, ?_⟩⟩
      rintro y rfl
      exact ⟨by omega, fun q2 => ih (i + 1) x (by omega) (by rw [cyc, if_pos q2, hx]; omega), fun q2 => ⟨s0, by omega, by omega, ih (i + 1) _ (by omega) (by rw [cyc, if_neg q2, hx])⟩⟩
  exact key (S 97).toNat 0 0 (by omega) rfl
end
