section
variable {w : WS} {h : AH} {o k v : Int} {S : Int → Int}
theorem c_X5_slackOf (sh : shSetup w o) (hS : isS h o S) (ok : okS S) (hk : k = -1 ∨ (0 ≤ k ∧ k < S 96)) : CI mX5_slackOf [vR o, vI k] w h (fun x h' => x = slk S k ∧ h' = h) := by
  refine e_X5_slackOf (r_X5_slackOf_0 ⟨sh.1, (c_X5_slackGiver sh hS ok hk).eq ?_⟩)
  have hK := ok.1
  have e4 := hS.1
  have hn := near_r ok 8 8 k hk
  rw [e4]
  refine ⟨by omega, fun c => ⟨sh, by omega, ?_, rfl⟩, fun c => ⟨?_, rfl⟩⟩
  · unfold slk
    rw [if_neg c, if_pos (by omega), (hS.2.2.2.2.2.1 _ (by omega) (by omega)).2.1]
  · unfold slk
    rw [if_pos c]
theorem c_X5_timersOf (sh : shSetup w o) (hS : isS h o S) (ok : okS S) (hk : inR k) : CI mX5_timersOf [vR o, vI k] w h (fun x h' => x = cntT S k (S 97).toNat ∧ h' = h) := by
  obtain ⟨s0, f0, f1, f2, f3, f5, f6, f7, ⟨t1, t2, t3, t4, t5, t6, t7⟩, l1, l2, l3, l4, l5, l6, l7⟩ := sh
  refine e_X5_timersOf (r_X5_timersOf_0 ?_)
  have hT := ok.2.1
  have key : ∀ (n i : Nat) (x : Int), i + n = (S 97).toNat → x = cntT S k i → XI mX5_timersOf 4 [some (vR o), some (vI k), some (vI x), some (vI i)] [] w h (fun x h' => x = cntT S k (S 97).toNat ∧ h' = h) := by
    intro n
    induction n with
    | zero =>
      intro i x hi hx
      refine r_X5_timersOf_4 ?_
      rw [f5, hS.2.1]
      exact ⟨s0, by omega, by omega, fun c => ⟨by rw [hx]; congr 1, rfl⟩, fun c => absurd c (by omega)⟩
    | succ n ih =>
      intro i x hi hx
      refine r_X5_timersOf_4 ?_
      rw [f5, hS.2.1]
      refine ⟨s0, by omega, by omega, fun c => absurd c (by omega), fun c => ?_⟩
      obtain ⟨g1, -, -⟩ := hS.2.2.2.2.2.2 i (by omega) (by omega)
      obtain ⟨b1, -, -⟩ := ok.2.2.2.2.2.2 i (by omega) (by omega)
      have hK := ok.1
      rw [g1]
      refine ⟨t5, by omega, by omega, by omega, hk, fun c2 => ?_, fun c2 => ?_⟩
      · exact ih (i + 1) x (by omega) (by unfold cntT; rw [if_neg c2]; omega)
      · exact ih (i + 1) (x + 1) (by omega) (by unfold cntT; rw [if_pos c2]; omega)
  exact key (S 97).toNat 0 0 (by omega) rfl
theorem c_X5_heirsOf (sh : shSetup w o) (hS : isS h o S) (ok : okS S) (hk : inR k) : CI mX5_heirsOf [vR o, vI k] w h (fun x h' => x = heir S k (S 96).toNat ∧ h' = h) := by
  refine e_X5_heirsOf (r_X5_heirsOf_0 ?_)
  have hK := ok.1
  have key : ∀ (n i : Nat) (x : Int), i + n = (S 96).toNat → x = heir S k i → XI mX5_heirsOf 4 [some (vR o), some (vI k), some (vI x), some (vI i)] [] w h (fun x h' => x = heir S k (S 96).toNat ∧ h' = h) := by
    intro n
    induction n with
    | zero =>
      intro i x hi hx
      refine r_X5_heirsOf_4 ?_
      rw [hS.1]
      exact ⟨sh.1, by omega, by omega, fun c => ⟨by rw [hx]; congr 1, rfl⟩, fun c => absurd c (by omega)⟩
    | succ n ih =>
      intro i x hi hx
      refine r_X5_heirsOf_4 ?_
      rw [hS.1]
      refine ⟨sh.1, by omega, by omega, fun c => absurd c (by omega), fun c => (c_X5_slackGiver sh hS ok (by omega)).eq ?_⟩
      have hn := near_r ok 8 8 i (by omega)
      refine ⟨by omega, hk, fun c2 => ?_, fun c2 => ?_⟩
      · exact ih (i + 1) x (by omega) (by unfold heir; rw [if_neg c2]; exact hx)
      · exact ih (i + 1) _ (by omega) (by unfold heir; rw [if_pos c2, hx])
  exact key (S 96).toNat 0 0 (by omega) rfl
theorem c_X5_callsAt {t u : Int} (sh : shSetup w o) (hS : isS h o S) (ok : okS S) (h0 : 0 ≤ t) (h1 : t < S 97) (hu : -1000 ≤ u ∧ u ≤ 1000) : CI mX5_callsAt [vR o, vI t, vI u] w h (fun x h' => x = (if calS S t u then 1 else 0) ∧ h' = h) := by
  refine e_X5_callsAt (r_X5_callsAt_0 ?_)
  have hT := ok.2.1
  obtain ⟨-, b2, b3⟩ := ok.2.2.2.2.2.2 t h0 h1
  obtain ⟨-, g2, g3⟩ := hS.2.2.2.2.2.2 t h0 h1
  rw [hS.2.1, g2, g3, if_pos ⟨h0, h1⟩, if_pos ⟨h0, h1⟩]
  refine ⟨sh.1, sh, by omega, by omega, ?_⟩
  rintro y rfl z rfl
  unfold calS
  refine ⟨by omega, fun c => ⟨(if_pos (Or.inl c)).symm, rfl⟩, fun c => ⟨fun c2 => ⟨(if_neg (by omega)).symm, rfl⟩, fun c2 => ⟨by omega, fun c3 => ⟨(if_neg (by omega)).symm, rfl⟩, fun c3 => ?_⟩⟩⟩
  have m1 := Int.emod_nonneg (u - S (72 + t)) (show S (48 + t) ≠ 0 by omega)
  have m2 := Int.emod_lt_of_pos (u - S (72 + t)) (show 0 < S (48 + t) by omega)
  refine ⟨by omega, by omega, by omega, fun c4 => ⟨(if_neg ?_).symm, rfl⟩, fun c4 => ⟨(if_pos (Or.inr ⟨by omega, by omega, c4⟩)).symm, rfl⟩⟩
  rintro (q | q)
  · exact c q
  · exact c4 q.2.2
theorem inAll_r (ok : okS S) : ∀ n : Nat, (n : Int) ≤ S 97 → 0 ≤ inAll S n ∧ inAll S n ≤ n * 301 := by
  intro n
  induction n with
  | zero => intro _; exact ⟨Int.le_refl _, Int.le_refl _⟩
  | succ n ih =>
    intro hn
    have := ih (by omega)
    obtain ⟨-, b2, b3⟩ := ok.2.2.2.2.2.2 n (by omega) (by omega)
    have hL := ok.2.2.1
    unfold inAll
    split
    · omega
    · split
      · omega
      · have d1 := Int.ediv_nonneg (show 0 ≤ S 98 - S (72 + n) by omega) (show 0 ≤ S (48 + n) by omega)
        have d2 := Int.ediv_le_self (S (48 + n)) (show 0 ≤ S 98 - S (72 + n) by omega)
        omega
theorem c_X5_callsInAll (sh : shSetup w o) (hS : isS h o S) (ok : okS S) : CI mX5_callsInAll [vR o] w h (fun x h' => x = inAll S (S 97).toNat ∧ h' = h) := by
  obtain ⟨s0, f0, f1, f2, f3, f5, f6, f7, ⟨t1, t2, t3, t4, t5, t6, t7⟩, l1, l2, l3, l4, l5, l6, l7⟩ := sh
  refine e_X5_callsInAll (r_X5_callsInAll_0 ?_)
  have hT := ok.2.1
  have hL := ok.2.2.1
  have key : ∀ (n i : Nat) (x : Int), i + n = (S 97).toNat → x = inAll S i → XI mX5_callsInAll 4 [some (vR o), some (vI x), some (vI i), none] [] w h (fun x h' => x = inAll S (S 97).toNat ∧ h' = h) := by
    intro n
    induction n with
    | zero =>
      intro i x hi hx
      refine r_X5_callsInAll_4 ?_
      rw [f6, f7, hS.2.1]
      exact ⟨s0, by omega, by omega, fun c => ⟨by rw [hx]; congr 1, rfl⟩, fun c => absurd c (by omega)⟩
    | succ n ih =>
      intro i x hi hx
      refine r_X5_callsInAll_4 ?_
      obtain ⟨-, g2, g3⟩ := hS.2.2.2.2.2.2 i (by omega) (by omega)
      obtain ⟨-, b2, b3⟩ := ok.2.2.2.2.2.2 i (by omega) (by omega)
      rw [f6, f7, hS.2.1, hS.2.2.1, g2, g3]
      refine ⟨s0, by omega, by omega, fun c => absurd c (by omega), fun c => ⟨t7, by omega, by omega, ?_⟩⟩
      rintro y rfl
      refine ⟨by omega, fun c2 => ?_, fun c2 => ⟨t6, by omega, by omega, fun c3 => ?_, fun c3 => ⟨by omega, by omega, ?_⟩⟩⟩
      · exact ih (i + 1) x (by omega) (by unfold inAll; rw [if_pos c2]; omega)
      · exact ih (i + 1) _ (by omega) (by unfold inAll; rw [if_neg c2, if_pos c3]; omega)
      · intro y ey
        exact ih (i + 1) y (by omega) (by unfold inAll; rw [if_neg c2, if_neg c3, ey, hx])
  exact key (S 97).toNat 0 0 (by omega) rfl
theorem c_X5_kindNamed (sh : shSetup w o) (hn : 0 ≤ h o 4 ∧ h o 4 ≤ 8) (hr : ∀ i, 0 ≤ i → i < h o 4 → inR (h (o + 1) i)) (hk : inR k) : CI mX5_kindNamed [vR o, vI k] w h (fun x h' => x = fnd (h (o + 1)) k (h o 4).toNat 0 ∧ h' = h) := by
  obtain ⟨s0, f0, f1, f2, f3, f5, f6, f7, ⟨t1, t2, t3, t4, t5, t6, t7⟩, l1, l2, l3, l4, l5, l6, l7⟩ := sh
  refine e_X5_kindNamed (r_X5_kindNamed_0 ?_)
  have key : ∀ (n : Nat) (i : Int), i + n = h o 4 → 0 ≤ i → ∀ y, y = fnd (h (o + 1)) k n i → XI mX5_kindNamed 2 [some (vR o), some (vI k), some (vI i)] [] w h (fun x h' => x = y ∧ h' = h) := by
    intro n
    induction n with
    | zero =>
      intro i hi h0 y hy
      refine r_X5_kindNamed_2 ?_
      rw [f0]
      exact ⟨s0, by omega, by omega, fun c => ⟨hy.symm, rfl⟩, fun c => absurd c (by omega)⟩
    | succ n ih =>
      intro i hi h0 y hy
      refine r_X5_kindNamed_2 ?_
      rw [f0]
      refine ⟨s0, by omega, by omega, fun c => absurd c (by omega), fun c => ⟨t1, h0, by omega, hr i h0 (by omega), hk, fun c2 => ?_, fun c2 => ⟨?_, rfl⟩⟩⟩
      · exact ih (i + 1) (by omega) (by omega) y (by rw [hy, fnd, if_neg c2])
      · rw [hy, fnd, if_pos c2]
  exact key (h o 4).toNat 0 (by omega) (by omega) _ rfl
theorem c_X5_addKind {a b c d : Int} (sh : shSetup w o) (hn : 0 ≤ h o 4 ∧ h o 4 < 8) : CV mX5_addKind [vR o, vI a, vI b, vI c, vI d] w h (fun h' => h' = st (st (st (st (st h (o + 1) (h o 4) a) (o + 2) (h o 4) b) (o + 3) (h o 4) c) (o + 4) (h o 4) d) o 4 (h o 4 + 1)) := by
  obtain ⟨s0, f0, f1, f2, f3, f5, f6, f7, ⟨t1, t2, t3, t4, t5, t6, t7⟩, l1, l2, l3, l4, l5, l6, l7⟩ := sh
  refine e_X5_addKind (r_X5_addKind_0 ?_)
  rw [f0, f1, f2, f3]
  refine ⟨s0, by omega, fun c => absurd c (by omega), fun c => ⟨t1, by omega, by omega, ?_⟩⟩
  intro h1 e1
  have r1 : h1 o 4 = h o 4 := by rw [e1]; exact st_cell _ _ _ _ (by omega)
  rw [r1]
  refine ⟨t2, by omega, by omega, ?_⟩
  intro h2 e2
  have r2 : h2 o 4 = h o 4 := by rw [e2, ← r1]; exact st_cell _ _ _ _ (by omega)
  rw [r2]
  refine ⟨t3, by omega, by omega, ?_⟩
  intro h3 e3
  have r3 : h3 o 4 = h o 4 := by rw [e3, ← r2]; exact st_cell _ _ _ _ (by omega)
  rw [r3]
  refine ⟨t4, by omega, by omega, ?_⟩
  intro h4 e4
  have r4 : h4 o 4 = h o 4 := by rw [e4, ← r3]; exact st_cell _ _ _ _ (by omega)
  rw [r4]
  intro h5 e5
  rw [e5, e4, e3, e2, e1]
theorem c_X5_addTimer {a b c : Int} (sh : shSetup w o) (hn : 0 ≤ h o 8 ∧ h o 8 < 24) : CV mX5_addTimer [vR o, vI a, vI b, vI c] w h (fun h' => h' = st (st (st (st h (o + 5) (h o 8) a) (o + 6) (h o 8) b) (o + 7) (h o 8) c) o 8 (h o 8 + 1)) := by
  obtain ⟨s0, f0, f1, f2, f3, f5, f6, f7, ⟨t1, t2, t3, t4, t5, t6, t7⟩, l1, l2, l3, l4, l5, l6, l7⟩ := sh
  refine e_X5_addTimer (r_X5_addTimer_0 ?_)
  rw [f5, f6, f7]
  refine ⟨s0, by omega, fun c => absurd c (by omega), fun c => ⟨t5, by omega, by omega, ?_⟩⟩
  intro h1 e1
  have r1 : h1 o 8 = h o 8 := by rw [e1]; exact st_cell _ _ _ _ (by omega)
  rw [r1]
  refine ⟨t6, by omega, by omega, ?_⟩
  intro h2 e2
  have r2 : h2 o 8 = h o 8 := by rw [e2, ← r1]; exact st_cell _ _ _ _ (by omega)
  rw [r2]
  refine ⟨t7, by omega, by omega, ?_⟩
  intro h3 e3
  have r3 : h3 o 8 = h o 8 := by rw [e3, ← r2]; exact st_cell _ _ _ _ (by omega)
  rw [r3]
  intro h4 e4
  rw [e4, e3, e2, e1]
theorem c_X5_clear (s0 : wt w o = 15) : CV mX5_clear [vR o] w h (fun h' => h' = st (st (st (st (st h o 4 0) o 8 0) o 9 60) o 10 10) o 11 1) := by
  refine e_X5_clear (r_X5_clear_0 ⟨s0, ?_⟩)
  intro h1 e1 h2 e2 h3 e3 h4 e4 h5 e5
  rw [e5, e4, e3, e2, e1]
end
