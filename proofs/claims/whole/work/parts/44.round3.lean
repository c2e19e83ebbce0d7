/-- the least slack of the first i timers that call at u, modulo their periods -/
def slP (S : Int → Int) (i : Int) (u x : Int) : Prop := (∀ k, (0 ≤ k ∧ k < i) → 0 < S (48 + k) → (u - S (72 + k)) % S (48 + k) = 0 → x ≤ slk S (S (24 + k))) ∧ (x = 1000000 ∨ ∃ k, (0 ≤ k ∧ k < i) ∧ 0 < S (48 + k) ∧ (u - S (72 + k)) % S (48 + k) = 0 ∧ x = slk S (S (24 + k)))
theorem slP_no {S : Int → Int} {i u x : Int} (a : slP S i u x) (hn : ¬ (0 < S (48 + i) ∧ (u - S (72 + i)) % S (48 + i) = 0)) : slP S (i + 1) u x := by
  refine ⟨fun k k0 k1 k2 => ?_, a.2.imp id (fun ⟨k, k0, k1⟩ => ⟨k, ⟨k0.1, by omega⟩, k1⟩)⟩
  by_cases e : k = i
  · rw [e] at k1 k2; exact absurd ⟨k1, k2⟩ hn
  · exact a.1 k ⟨k0.1, by omega⟩ k1 k2
theorem slP_yes {S : Int → Int} (ok : okS S) {i u x : Int} (a : slP S i u x) (hi : 0 ≤ i ∧ i < S 97) (h1 : 0 < S (48 + i)) (h2 : (u - S (72 + i)) % S (48 + i) = 0) : slP S (i + 1) u (min x (slk S (S (24 + i)))) := by
  have b := (ok.2.2.2.2.2.2 i hi.1 hi.2).1
  have sl := slk_r ok b.1 b.2
  refine ⟨fun k k0 k1 k2 => ?_, ?_⟩
  · by_cases e : k = i
    · rw [e]; omega
    · have := a.1 k ⟨k0.1, by omega⟩ k1 k2; omega
  · by_cases c : x ≤ slk S (S (24 + i))
    · rw [show min x (slk S (S (24 + i))) = x by omega]
      exact a.2.imp id (fun ⟨k, k0, k1⟩ => ⟨k, ⟨k0.1, by omega⟩, k1⟩)
    · rw [show min x (slk S (S (24 + i))) = slk S (S (24 + i)) by omega]
      exact Or.inr ⟨i, ⟨hi.1, by omega⟩, h1, h2, rfl⟩
theorem slP_r {S : Int → Int} (ok : okS S) {i u x : Int} (hi : i ≤ S 97) (a : slP S i u x) : 0 ≤ x ∧ x ≤ 1000000 := by
  rcases a.2 with q | ⟨k, k0, k1, k2, k3⟩
  · omega
  · have b := (ok.2.2.2.2.2.2 k k0.1 (by omega)).1
    have sl := slk_r ok b.1 b.2
    omega
/-- not all ticks are a period apart -/
theorem apart_mod {a u v p : Int} (h1 : (v - a) % p = 0) (h2 : v < u) (h3 : u < v + p) : (u - a) % p ≠ 0 := by
  intro h
  have d1 := Int.dvd_of_emod_eq_zero h1
  have d2 := Int.dvd_of_emod_eq_zero h
  have d3 := Int.dvd_sub d2 d1
  have := Int.le_of_dvd (by omega) d3
  omega
section
variable {w : WS} {h : AH} {r o : Int} {S : Int → Int}
theorem c_X4_fillSlacks {H : Int} (sr : shRound w r) (ss : shSetup w o) (hS : isS h o S) (ok : okS S) (hr : h r 2 = H) (hH : 0 < H ∧ H ≤ 360) (hd : r + 2 < o ∨ o + 7 < r) : CV mX4_fillSlacks [vR r, vR o] w h (fun h' => (∀ u, 0 ≤ u → u < H → slP S (S 97) u (h' (r + 1) u)) ∧ ∀ b, b ≠ r + 1 → h' b = h b) := by
  obtain ⟨s0, f0, f1, ⟨t1, t2⟩, l1, l2⟩ := sr
  have hT := ok.2.1
  have timers : ∀ (d i : Nat) (h1 : AH), i + d = (S 97).toNat → (∀ u, 0 ≤ u → u < H → slP S i u (h1 (r + 1) u)) → (∀ b, b ≠ r + 1 → h1 b = h b) → XV mX4_fillSlacks 35 [some (vR r), some (vR o), some (vI i), none, none, none, none] [] w h1 (fun h' => (∀ u, 0 ≤ u → u < H → slP S (S 97) u (h' (r + 1) u)) ∧ ∀ b, b ≠ r + 1 → h' b = h b) := by
    intro d
    induction d with
    | zero =>
      intro i h1 hi hs hf
      have hS1 := isS_frame hS (h' := h1) (fun b b1 b2 => hf b (by omega))
      refine r_X4_fillSlacks_35 ?_
      rw [hS1.2.1]
      refine ⟨ss.1, by omega, by omega, fun q => ⟨fun u u0 u1 => ?_, hf⟩, fun q => absurd q (by omega)⟩
      rw [show S 97 = (i : Int) by omega]; exact hs u u0 u1
    | succ d ih =>
      intro i h1 hi hs hf
      have hS1 := isS_frame hS (h' := h1) (fun b b1 b2 => hf b (by omega))
      obtain ⟨b1, b2, b3⟩ := ok.2.2.2.2.2.2 i (by omega) (by omega)
      obtain ⟨g1, g2, g3⟩ := hS1.2.2.2.2.2.2 i (by omega) (by omega)
      have sl := slk_r ok b1.1 b1.2
      refine r_X4_fillSlacks_35 ?_
      rw [hS1.2.1, g1, g2, if_pos ⟨by omega, by omega⟩, if_pos ⟨by omega, by omega⟩]
      refine ⟨ss.1, by omega, by omega, fun q => absurd q (by omega), fun q => ⟨ss, by omega, ?_⟩⟩
      rintro y rfl
      refine ⟨by omega, fun q2 => ih (i + 1) h1 (by omega) (fun u u0 u1 => slP_no (hs u u0 u1) (by omega)) hf, fun q2 => ?_⟩
      refine (c_X5_slackOf ss hS1 ok (Or.inr b1)).eq ?_
      rw [hS1.2.1, g3, if_pos ⟨by omega, by omega⟩]
      refine ⟨by omega, by omega, by omega, ?_⟩
      intro y ey
      have m1 := Int.emod_nonneg (S (72 + (i : Int))) (show S (48 + (i : Int)) ≠ 0 by omega)
      have m2 := Int.emod_lt_of_pos (S (72 + (i : Int))) (show 0 < S (48 + (i : Int)) by omega)
      rw [show max y 0 = y by omega]
      refine ⟨by omega, ?_⟩
      have inner : ∀ (e : Nat) (a : Int) (h2 : AH), H - a ≤ e → 0 ≤ a → a ≤ 420 → (a - S (72 + (i : Int))) % S (48 + (i : Int)) = 0 → (∀ u, 0 ≤ u → u < H → (u < a → slP S ((i : Int) + 1) u (h2 (r + 1) u)) ∧ (a ≤ u → slP S i u (h2 (r + 1) u))) → (∀ b, b ≠ r + 1 → h2 b = h b) → XV mX4_fillSlacks 81 [some (vR r), some (vR o), some (vI i), some (vI (S (48 + (i : Int)))), some (vI (slk S (S (24 + (i : Int))))), none, some (vI a)] [] w h2 (fun h' => (∀ u, 0 ≤ u → u < H → slP S (S 97) u (h' (r + 1) u)) ∧ ∀ b, b ≠ r + 1 → h' b = h b) := by
        intro e
        induction e with
        | zero =>
          intro a h2 he a0 a1 hm hs2 hf2
          refine r_X4_fillSlacks_81 ?_
          rw [hf2 r (by omega), hr]
          exact ⟨s0, by omega, by omega, fun z => ih (i + 1) h2 (by omega) (fun u u0 u1 => (hs2 u u0 u1).1 (by omega)) hf2, fun z => absurd z (by omega)⟩
        | succ e ihe =>
          intro a h2 he a0 a1 hm hs2 hf2
          refine r_X4_fillSlacks_81 ?_
          rw [hf2 r (by omega), hr, f0]
          refine ⟨s0, by omega, by omega, fun z => ih (i + 1) h2 (by omega) (fun u u0 u1 => (hs2 u u0 u1).1 (by omega)) hf2, fun z => ⟨t1, by omega, fun z2 => absurd z2 (by omega), fun z2 => ⟨a0, by omega, ?_⟩⟩⟩
          have sa := (hs2 a a0 (by omega)).2 (Int.le_refl _)
          have sr := slP_r ok (by omega) sa
          refine ⟨by omega, by omega, ?_⟩
          intro h3 e3
          refine ihe (a + S (48 + (i : Int))) h3 (by omega) (by omega) (by omega) ?_ (fun u u0 u1 => ⟨fun v => ?_, fun v => ?_⟩) (fun b hb => by rw [e3, st_row _ _ _ hb]; exact hf2 b hb)
          · rw [show a + S (48 + (i : Int)) - S (72 + (i : Int)) = a - S (72 + (i : Int)) + S (48 + (i : Int)) by omega, Int.add_emod_right]; exact hm
          · by_cases eu : u = a
            · rw [eu, e3, st_same]
              exact slP_yes ok sa (by omega) (by omega) hm
            · rw [e3, st_slot _ _ _ _ eu]
              by_cases cu : u < a
              · exact (hs2 u u0 u1).1 cu
              · exact slP_no ((hs2 u u0 u1).2 (by omega)) (fun z => apart_mod hm (by omega) v z.2)
          · rw [e3, st_slot _ _ _ _ (show u ≠ a by omega)]
            exact (hs2 u u0 u1).2 (by omega)
      refine inner (H - y).toNat y h1 (by omega) (by omega) (by omega) ?_ (fun u u0 u1 => ⟨fun v => ?_, fun v => hs u u0 u1⟩) hf
      · rw [ey]
        have e := Int.mul_ediv_add_emod (S (72 + (i : Int))) (S (48 + (i : Int)))
        rw [show S (72 + (i : Int)) % S (48 + (i : Int)) - S (72 + (i : Int)) = S (48 + (i : Int)) * (-(S (72 + (i : Int)) / S (48 + (i : Int)))) by rw [Int.mul_neg]; omega]
        exact Int.mul_emod_right _ _
      · refine slP_no (hs u u0 u1) (fun z => ?_)
        have e0 : (y - S (72 + (i : Int))) % S (48 + (i : Int)) = 0 := by
          rw [ey]
          have e := Int.mul_ediv_add_emod (S (72 + (i : Int))) (S (48 + (i : Int)))
          rw [show S (72 + (i : Int)) % S (48 + (i : Int)) - S (72 + (i : Int)) = S (48 + (i : Int)) * (-(S (72 + (i : Int)) / S (48 + (i : Int)))) by rw [Int.mul_neg]; omega]
          exact Int.mul_emod_right _ _
        exact apart_mod z.2 v (by omega) e0
  have clear : ∀ (d : Nat) (u : Int) (h1 : AH), u + d = H → 0 ≤ u → (∀ q, 0 ≤ q → q < u → h1 (r + 1) q = 1000000) → (∀ b, b ≠ r + 1 → h1 b = h b) → XV mX4_fillSlacks 2 [some (vR r), some (vR o), some (vI u), none, none, none, none] [] w h1 (fun h' => (∀ u, 0 ≤ u → u < H → slP S (S 97) u (h' (r + 1) u)) ∧ ∀ b, b ≠ r + 1 → h' b = h b) := by
    intro d
    induction d with
    | zero =>
      intro u h1 hu u0 hq hf
      refine r_X4_fillSlacks_2 ?_
      rw [hf r (by omega), hr]
      refine ⟨s0, by omega, by omega, fun z => timers (S 97).toNat 0 h1 (by omega) (fun v v0 v1 => ?_) hf, fun z => absurd z (by omega)⟩
      rw [hq v v0 (by omega)]
      exact ⟨fun k k0 => by omega, Or.inl rfl⟩
    | succ d ih =>
      intro u h1 hu u0 hq hf
      refine r_X4_fillSlacks_2 ?_
      rw [hf r (by omega), hr, f0]
      refine ⟨s0, by omega, by omega, fun z => absurd z (by omega), fun z => ⟨t1, by omega, fun z2 => absurd z2 (by omega), fun z2 => ⟨u0, by omega, ?_⟩⟩⟩
      intro h2 e2
      refine ih (u + 1) h2 (by omega) (by omega) (fun q q0 q1 => ?_) (fun b hb => by rw [e2, st_row _ _ _ hb]; exact hf b hb)
      by_cases e : q = u
      · rw [e, e2, st_same]
      · rw [e2, st_slot _ _ _ _ e]; exact hq q q0 (by omega)
  exact e_X4_fillSlacks (r_X4_fillSlacks_0 (clear H.toNat 0 h (by omega) (by omega) (fun q q0 q1 => by omega) (fun b _ => rfl)))
/-- behind x - 1 comes what comes at x, or what comes behind it -/
theorem nl_rec (ok : okS S) (any : anyT S) {x s : Int} (hx : 0 ≤ x) (hs : slP S (S 97) x s) : nl S (x - 1) = min (x + s) (nl S x) := by
  have e1 := nl_gt ok any (t := x) (by omega)
  have lo : nl S (x - 1) ≤ x + s ∨ s = 1000000 := by
    rcases hs.2 with q | ⟨k, k0, k1, k2, k3⟩
    · exact Or.inr q
    · left
      have := nl_le ok (t := x - 1) (k := k) (by omega) ⟨k0, k1⟩
      have := nx_least (t := x - 1) k1 (show x - 1 + 1 ≤ x by omega) k2
      unfold nlV at *
      omega
  have mo := nl_mono ok any (t := x - 1) (t' := x) (by omega) (by omega)
  obtain ⟨k, hk, e⟩ := nl_ex ok any (show -1 ≤ x - 1 by omega)
  have r1 := nx_r (S := S) (k := k) (t := x - 1) hk.2
  by_cases c : nx S k (x - 1) = x
  · have m0 := r1.2.2
    rw [c] at m0
    have := hs.1 k hk.1 hk.2 m0
    unfold nlV at e
    omega
  · have c1 := nx_least (t := x) hk.2 (show x + 1 ≤ nx S k (x - 1) by omega) r1.2.2
    have c2 := nl_le ok (show -1 ≤ x by omega) hk
    unfold nlV at e c2
    omega
end
