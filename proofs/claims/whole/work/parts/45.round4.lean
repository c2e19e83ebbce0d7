section
variable {w : WS} {h : AH} {r o : Int} {S : Int → Int}
theorem c_X4_fillReach {H : Int} (sr : shRound w r) (ok : okS S) (any : anyT S) (hp : perH S H) (hr : h r 2 = H) (hH : H ≤ 360) (hs : ∀ u, 0 ≤ u → u < H → slP S (S 97) u (h (r + 1) u)) : CV mX4_fillReach [vR r] w h (fun h' => (∀ u, 0 ≤ u → u < H → h' (r + 2) u = nl S u - u) ∧ ∀ b, b ≠ r + 2 → h' b = h b) := by
  obtain ⟨s0, f0, f1, ⟨t1, t2⟩, l1, l2⟩ := sr
  have H0 := hp.1
  have e1 : ∀ h1 : AH, (∀ b, b ≠ r + 2 → h1 b = h b) → h1 (r + 1) = h (r + 1) ∧ h1 r = h r := fun h1 hf => ⟨hf (r + 1) (by omega), hf r (by omega)⟩
  have ngt : ∀ x, -1 ≤ x → x + 1 ≤ nl S x ∧ nl S x ≤ x + 160 := fun x hx => nl_gt ok any hx
  have rcx : ∀ x, 0 ≤ x → x < H → nl S (x - 1) = min (x + h (r + 1) x) (nl S x) := fun x x0 x1 => nl_rec ok any x0 (hs x x0 x1)
  have lap1 : ∀ (d : Nat) (x a : Int) (h1 : AH), x + 1 = d → x < H → a = nl S x - (x + 1) → (∀ u, x < u → u < H → h1 (r + 2) u = nl S u - u) → (∀ b, b ≠ r + 2 → h1 b = h b) → XV mX4_fillReach 25 [some (vR r), some (vI a), some (vI 1), some (vI x)] [] w h1 (fun h' => (∀ u, 0 ≤ u → u < H → h' (r + 2) u = nl S u - u) ∧ ∀ b, b ≠ r + 2 → h' b = h b) := by
    intro d
    induction d with
    | zero =>
      intro x a h1 hx x1 ea hu hf
      refine r_X4_fillReach_25 ⟨by omega, fun z => ?_, fun z => absurd z (by omega)⟩
      refine r_X4_fillReach_5 ⟨by decide, fun z2 => ⟨fun u u0 u1 => hu u (by omega) u1, hf⟩, fun z2 => absurd z2 (by omega)⟩
    | succ d ih =>
      intro x a h1 hx x1 ea hu hf
      have n1 := ngt x (by omega)
      have sx := slP_r ok (Int.le_refl _) (hs x (by omega) x1)
      refine r_X4_fillReach_25 ?_
      rw [f0, f1]
      refine ⟨by omega, fun z => absurd z (by omega), fun z => ⟨s0, t2, by omega, by omega, ?_⟩⟩
      intro h2 e2
      have a1 : h2 (r + 1) x = h (r + 1) x := by rw [e2, st_cell _ _ _ _ (show r + 1 ≠ r + 2 by omega), (e1 h1 hf).1]
      have a2 : h2 (r + 2) x = 1 + a := by rw [e2, st_same]
      rw [a1, a2]
      refine ⟨t1, by omega, by omega, by omega, ?_⟩
      intro y ey
      have rx := rcx x (by omega) x1
      refine ih (x + -1) y h2 (by omega) (by omega) ?_ (fun u u0 u1 => ?_) (fun b hb => by rw [e2, st_row _ _ _ hb]; exact hf b hb)
      · rw [show x + -1 = x - 1 by omega, rx, ey]; omega
      · by_cases eu : u = x
        · rw [eu, a2]; omega
        · rw [e2, st_slot _ _ _ _ eu]; exact hu u (by omega) u1
  have mid : ∀ (a : Int) (h1 : AH), a = nl S (-1) → (∀ b, b ≠ r + 2 → h1 b = h b) → XV mX4_fillReach 5 [some (vR r), some (vI a), some (vI 1), none] [] w h1 (fun h' => (∀ u, 0 ≤ u → u < H → h' (r + 2) u = nl S u - u) ∧ ∀ b, b ≠ r + 2 → h' b = h b) := by
    intro a h1 ea hf
    refine r_X4_fillReach_5 ?_
    rw [f1, (e1 h1 hf).2, hr, l2]
    refine ⟨by decide, fun z => absurd z (by decide), fun z => ⟨s0, t2, by omega, by omega, ?_⟩⟩
    intro y ey
    have pe := nl_per ok any (t := -1) hp (by omega)
    refine lap1 H.toNat y a h1 (by omega) (by omega) ?_ (fun u u0 u1 => by omega) hf
    rw [show y = -1 + H by omega, pe, ea]; omega
  have lap0 : ∀ (d : Nat) (x a : Int) (h1 : AH), x + 1 = d → x < H → nl S x - (x + 1) ≤ a → a ≤ 1000000 → (∀ u, x < u → u < H → a ≤ (u - (x + 1)) + h (r + 1) u) → (∀ b, b ≠ r + 2 → h1 b = h b) → XV mX4_fillReach 25 [some (vR r), some (vI a), some (vI 0), some (vI x)] [] w h1 (fun h' => (∀ u, 0 ≤ u → u < H → h' (r + 2) u = nl S u - u) ∧ ∀ b, b ≠ r + 2 → h' b = h b) := by
    intro d
    induction d with
    | zero =>
      intro x a h1 hx x1 lo hi hu hf
      refine r_X4_fillReach_25 ⟨by omega, fun z => ?_, fun z => absurd z (by omega)⟩
      refine mid a h1 ?_ hf
      have ex : x = -1 := by omega
      rw [ex] at lo hu
      obtain ⟨k, hk, e⟩ := nl_ex ok any (show -1 ≤ (-1 : Int) by omega)
      have r1 := nx_r (S := S) (k := k) (t := -1) hk.2
      have le := Int.le_of_dvd H0 (hp.2 k hk)
      have h3 := hu (nx S k (-1)) (by omega) (by omega)
      have h4 := (hs (nx S k (-1)) (by omega) (by omega)).1 k hk.1 hk.2 r1.2.2
      unfold nlV at e
      omega
    | succ d ih =>
      intro x a h1 hx x1 lo hi hu hf
      have n1 := ngt x (by omega)
      have sx := slP_r ok (Int.le_refl _) (hs x (by omega) x1)
      refine r_X4_fillReach_25 ?_
      rw [f0, f1]
      refine ⟨by omega, fun z => absurd z (by omega), fun z => ⟨s0, t2, by omega, by omega, ?_⟩⟩
      intro h2 e2
      have a1 : h2 (r + 1) x = h (r + 1) x := by rw [e2, st_cell _ _ _ _ (show r + 1 ≠ r + 2 by omega), (e1 h1 hf).1]
      have a2 : h2 (r + 2) x = 1 + a := by rw [e2, st_same]
      rw [a1, a2]
      refine ⟨t1, by omega, by omega, by omega, ?_⟩
      intro y ey
      have rx := rcx x (by omega) x1
      refine ih (x + -1) y h2 (by omega) (by omega) ?_ (by omega) (fun u u0 u1 => ?_) (fun b hb => by rw [e2, st_row _ _ _ hb]; exact hf b hb)
      · rw [show x + -1 = x - 1 by omega, rx, ey]; omega
      · by_cases eu : u = x
        · rw [eu, ey]; omega
        · have := hu u (by omega) u1; omega
  refine e_X4_fillReach (r_X4_fillReach_0 ?_)
  refine r_X4_fillReach_5 ?_
  rw [f1, hr, l2]
  refine ⟨by decide, fun z => absurd z (by decide), fun z => ⟨s0, t2, by omega, by omega, ?_⟩⟩
  intro y ey
  have n1 := ngt y (by omega)
  exact lap0 H.toNat y 1000000 h (by omega) (by omega) (by omega) (by omega) (fun u u0 u1 => by omega) (fun b _ => rfl)
/-- the table 'reach', modulo H -/
theorem reach_at (ok : okS S) (any : anyT S) {H t : Int} (hp : perH S H) (hR : ∀ u, 0 ≤ u → u < H → h (r + 2) u = nl S u - u) (h0 : 0 ≤ t) (h1 : t < 2 * H) : h (r + 2) (t % H) = nl S t - t := by
  have H0 := hp.1
  by_cases c : t < H
  · rw [Int.emod_eq_of_lt h0 c]; exact hR t h0 c
  · have e : t % H = t - H := by
      have := Int.emod_eq_of_lt (show 0 ≤ t - H by omega) (show t - H < H by omega)
      rw [← this, show t - H = t + H * (-1) by omega, Int.add_mul_emod_self_left]
    have pe := nl_per ok any (t := t - H) hp (by omega)
    rw [e, hR (t - H) (by omega) (by omega)]
    rw [show t - H + H = t by omega] at pe
    omega
theorem c_X4_wakesFrom {H p : Int} {m : Nat} (sr : shRound w r) (ok : okS S) (any : anyT S) (hp : perH S H) (hr : h r 2 = H) (hH : H ≤ 360) (hR : ∀ u, 0 ≤ u → u < H → h (r + 2) u = nl S u - u) (h0 : 0 ≤ p) (h1 : p < H) (hc : isCnt S H p m) (hm : 0 < m ∧ (m : Int) ≤ H) : CI mX4_wakesFrom [vR r, vI p] w h (fun x h' => x = m ∧ h' = h) := by
  obtain ⟨s0, f0, f1, ⟨t1, t2⟩, l1, l2⟩ := sr
  have H0 := hp.1
  have key : ∀ (d j : Nat), j + d + 1 = m → XI mX4_wakesFrom 10 [some (vR r), some (vI p), some (vI ((j : Int) + 1)), some (vI (itn S j p % H)), some (vI (itn S j p - p)), some (vI j)] [] w h (fun x h' => x = m ∧ h' = h) := by
    intro d
    induction d with
    | zero =>
      intro j hj
      have g := itn_ge ok any h0 j
      have lt := hc.1 j (by omega)
      have ge : p + H ≤ itn S (j + 1) p := by rw [show j + 1 = m by omega]; exact hc.2
      rw [itn] at ge
      have n1 := nl_gt ok any (t := itn S j p) (by omega)
      have ra := reach_at (h := h) (r := r) ok any (t := itn S j p) hp hR (by omega) (by omega)
      have m1 := Int.emod_nonneg (itn S j p) (show H ≠ 0 by omega)
      have m2 := Int.emod_lt_of_pos (itn S j p) H0
      refine r_X4_wakesFrom_10 ?_
      rw [f1, hr, ra]
      refine ⟨s0, by omega, by omega, fun q => absurd q (by omega), fun q => ⟨by omega, fun q2 => absurd q2 (by omega), fun q2 => ⟨t2, by omega, fun q3 => absurd q3 (by omega), fun q3 => ⟨m1, by omega, ?_⟩⟩⟩⟩
      intro y ey
      exact ⟨by omega, fun q4 => absurd q4 (by omega), fun q4 => ⟨by omega, rfl⟩⟩
    | succ d ih =>
      intro j hj
      have g := itn_ge ok any h0 j
      have lt := hc.1 j (by omega)
      have lt2 := hc.1 (j + 1) (by omega)
      rw [itn] at lt2
      have n1 := nl_gt ok any (t := itn S j p) (by omega)
      have ra := reach_at (h := h) (r := r) ok any (t := itn S j p) hp hR (by omega) (by omega)
      have m1 := Int.emod_nonneg (itn S j p) (show H ≠ 0 by omega)
      have m2 := Int.emod_lt_of_pos (itn S j p) H0
      refine r_X4_wakesFrom_10 ?_
      rw [f1, hr, ra]
      refine ⟨s0, by omega, by omega, fun q => absurd q (by omega), fun q => ⟨by omega, fun q2 => absurd q2 (by omega), fun q2 => ⟨t2, by omega, fun q3 => absurd q3 (by omega), fun q3 => ⟨m1, by omega, ?_⟩⟩⟩⟩
      intro y ey
      have ey2 : y = itn S (j + 1) p - p := by rw [itn]; omega
      have ey3 : p + y = itn S (j + 1) p := by omega
      refine ⟨by omega, fun q4 => ⟨by omega, by omega, ?_⟩, fun q4 => absurd q4 (by omega)⟩
      rw [ey3, ey2]
      exact ih (j + 1) (by omega)
  refine e_X4_wakesFrom (r_X4_wakesFrom_0 ?_)
  have := key (m - 1) 0 (by omega)
  rw [show itn S 0 p = p from rfl, Int.emod_eq_of_lt h0 h1, Int.sub_self] at this
  exact this
theorem c_X4_choose {H : Int} (sr : shRound w r) (ok : okS S) (any : anyT S) (hp : perH S H) (hr : h r 2 = H) (hH : H ≤ 360) (hR : ∀ u, 0 ≤ u → u < H → h (r + 2) u = nl S u - u) (h4 : h r 4 = 0) : CV mX4_choose [vR r] w h (fun h' => (∃ m : Nat, h' r 4 = m ∧ 0 < m ∧ roundS S H (h' r 5) m) ∧ (∀ i, i ≠ 4 → i ≠ 5 → h' r i = h r i) ∧ ∀ b, b ≠ r → h' b = h b) := by
  obtain ⟨s0, f0, f1, ⟨t1, t2⟩, l1, l2⟩ := id sr
  have H0 := hp.1
  have n0 := nl_gt ok any (t := 0) (by omega)
  have R0 := hR 0 (by omega) H0
  have key : ∀ (d : Nat) (p : Int) (h1 : AH), p + d = H → 0 ≤ p → ((p = 0 ∧ h1 r 4 = 0) ∨ (0 < p ∧ ∃ m : Nat, h1 r 4 = m ∧ (0 < m ∧ (m : Int) ≤ H) ∧ (0 ≤ h1 r 5 ∧ h1 r 5 < p) ∧ h1 r 5 ≤ nl S 0 ∧ isCnt S H (h1 r 5) m ∧ ∀ (q : Int) (m' : Nat), 0 ≤ q → q < p → isCnt S H q m' → m ≤ m' ∧ (q < h1 r 5 → m < m'))) → (∀ i, i ≠ 4 → i ≠ 5 → h1 r i = h r i) → (∀ b, b ≠ r → h1 b = h b) → XV mX4_choose 2 [some (vR r), some (vI p), none] [] w h1 (fun h' => (∃ m : Nat, h' r 4 = m ∧ 0 < m ∧ roundS S H (h' r 5) m) ∧ (∀ i, i ≠ 4 → i ≠ 5 → h' r i = h r i) ∧ ∀ b, b ≠ r → h' b = h b) := by
    intro d
    induction d with
    | zero =>
      intro p h1 hpd p0 hst hi hf
      refine r_X4_choose_2 ?_
      rw [hi 2 (by decide) (by decide), hr]
      refine ⟨s0, by omega, by omega, fun q => ⟨?_, hi, hf⟩, fun q => absurd q (by omega)⟩
      rcases hst with hst | ⟨-, m, e1, e2, e3, e4, e5, e6⟩
      · omega
      · exact ⟨m, e1, e2.1, roundS_of ok any hp ⟨e3.1, by omega⟩ e5 e4 (fun q m' q0 q1 q2 q3 => e6 q m' q0 (by omega) q3)⟩
    | succ d ih =>
      intro p h1 hpd p0 hst hi hf
      refine r_X4_choose_2 ?_
      rw [f1, hi 2 (by decide) (by decide), hf (r + 2) (by omega), hr, R0, Int.sub_zero]
      refine ⟨s0, by omega, by omega, fun q => absurd q (by omega), fun q => ⟨t2, by omega, by omega, fun q2 => ⟨?_, hi, hf⟩, fun q2 => ?_⟩⟩
      · rcases hst with hst | ⟨-, m, e1, e2, e3, e4, e5, e6⟩
        · omega
        · exact ⟨m, e1, e2.1, roundS_of ok any hp ⟨e3.1, by omega⟩ e5 e4 (fun q m' q0 q1 q2 q3 => e6 q m' q0 (by omega) q3)⟩
      · obtain ⟨mp, c1, c2, c3⟩ := isCnt_ex ok any p0 H0
        refine (c_X4_wakesFrom sr ok any hp (by rw [hi 2 (by decide) (by decide)]; exact hr) hH (fun u u0 u1 => by rw [hf (r + 2) (by omega)]; exact hR u u0 u1) p0 (by omega) c1 ⟨c2, c3⟩).eq ?_
        have take : ∀ h2 h3 : AH, h2 = st h1 r 4 (mp : Int) → h3 = st h2 r 5 p → (∀ (q : Int) (m' : Nat), 0 ≤ q → q < p → isCnt S H q m' → mp < m') → XV mX4_choose 2 [some (vR r), some (vI (p + 1)), none] [] w h3 (fun h' => (∃ m : Nat, h' r 4 = m ∧ 0 < m ∧ roundS S H (h' r 5) m) ∧ (∀ i, i ≠ 4 → i ≠ 5 → h' r i = h r i) ∧ ∀ b, b ≠ r → h' b = h b) := by
          intro h2 h3 e2 e3 all
          have x4 : h3 r 4 = mp := by rw [e3, st_slot _ _ _ _ (by decide), e2, st_same]
          have x5 : h3 r 5 = p := by rw [e3, st_same]
          refine ih (p + 1) h3 (by omega) (by omega) (Or.inr ⟨by omega, mp, x4, ⟨c2, c3⟩, by rw [x5]; omega, by rw [x5]; omega, by rw [x5]; exact c1, fun q m' q0 q1 q3 => ?_⟩) (fun i i1 i2 => by rw [e3, st_slot _ _ _ _ i2, e2, st_slot _ _ _ _ i1]; exact hi i i1 i2) (fun b hb => by rw [e3, st_row _ _ _ hb, e2, st_row _ _ _ hb]; exact hf b hb)
          rw [x5]
          by_cases e : q = p
          · rw [e] at q3
            have := isCnt_one c1 q3
            omega
          · have := all q m' q0 (by omega) q3
            omega
        rcases hst with ⟨z1, z2⟩ | ⟨z0, m, e1, e2, e3, e4, e5, e6⟩
        · rw [z2]
          exact ⟨by decide, fun _ h2 w2 h3 w3 => take h2 h3 w2 w3 (fun q m' q0 q1 _ => by omega), fun z => absurd rfl z⟩
        · rw [e1]
          refine ⟨by omega, fun z => absurd z (by omega), fun z => ⟨by omega, fun v => ?_, fun v h2 w2 h3 w3 => take h2 h3 w2 w3 (fun q m' q0 q1 q3 => by have := (e6 q m' q0 q1 q3).1; omega)⟩⟩
          refine ih (p + 1) h1 (by omega) (by omega) (Or.inr ⟨by omega, m, e1, e2, by omega, e4, e5, fun q m' q0 q1 q3 => ?_⟩) hi hf
          by_cases e : q = p
          · rw [e] at q3
            have := isCnt_one c1 q3
            exact ⟨by omega, fun z => by omega⟩
          · exact e6 q m' q0 (by omega) q3
  exact e_X4_choose (r_X4_choose_0 (key H.toNat 0 h (by omega) (by omega) (Or.inl ⟨rfl, h4⟩) (fun _ _ _ => rfl) (fun _ _ => rfl)))
end
