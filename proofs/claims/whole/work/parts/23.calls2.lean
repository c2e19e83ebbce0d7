section
variable {w : WS} {h : AH} {c k n : Int} {F L W : Int → Int}
theorem c_X0_add {x y z t : Int} (sh : shCalls w c) (hn : 0 ≤ h c 4 ∧ h c 4 < wl w (c + 1)) : CV mX0_add [vR c, vI x, vI y, vI z, vI t] w h (fun h' => h' = st (st (st (st (st h (c + 1) (h c 4) x) (c + 2) (h c 4) y) (c + 3) (h c 4) z) (c + 4) (h c 4) t) c 4 (h c 4 + 1)) := by
  obtain ⟨s0, f0, f1, f2, f3, ⟨t1, t2, t3, t4⟩, ⟨l2, l3, l4⟩, l1⟩ := id sh
  refine e_X0_add (r_X0_add_0 ?_)
  rw [f0, f1, f2, f3]
  refine ⟨s0, t1, by omega, by omega, fun q => absurd q (by omega), fun q => ⟨by omega, by omega, ?_⟩⟩
  intro h1 e1
  have r1 : h1 c 4 = h c 4 := by rw [e1]; exact st_cell _ _ _ _ (by omega)
  rw [r1]
  refine ⟨t2, by omega, by omega, ?_⟩
  intro h2 e2
  have r2 : h2 c 4 = h c 4 := by rw [e2, ← r1]; exact st_cell _ _ _ _ (by omega)
  rw [r2]
  refine ⟨t3, by omega, by omega, ?_⟩
  intro h3 e3
  have r3 : h3 c 4 = h c 4 := by rw [e3, ← r2]; exact st_cell _ _ _ _ (by omega)
  rw [r3]
  refine ⟨t4, by omega, by omega, ?_⟩
  intro h4 e4
  have r4 : h4 c 4 = h c 4 := by rw [e4, ← r3]; exact st_cell _ _ _ _ (by omega)
  rw [r4]
  intro h5 e5
  rw [e5, e4, e3, e2, e1]
theorem c_X0_leastLatest {a b : Int} (sh : shCalls w c) (hC : isC w h c n F L W) (ok : okC n F L W) (h0 : 0 ≤ a) (h1 : a ≤ n) (h2 : b ≤ n) (hb : 0 ≤ b) : CI mX0_leastLatest [vR c, vI a, vI b] w h (fun x h' => lst L (fun k => a ≤ k ∧ k < b) x ∧ h' = h) := by
  obtain ⟨s0, f0, f1, f2, f3, ⟨t1, t2, t3, t4⟩, ⟨l2, l3, l4⟩, l1⟩ := id sh
  have hn := ok.1
  refine e_X0_leastLatest (r_X0_leastLatest_0 ⟨by omega, ?_⟩)
  rw [show max a 0 = a by omega]
  have key : ∀ (m : Nat) (i x : Int), i + m = max a b → a ≤ i → lst L (fun k => a ≤ k ∧ k < i) x → (x = -1 ∨ 0 ≤ x) → XI mX0_leastLatest 9 [some (vR c), none, some (vI b), some (vI x), some (vI i)] [] w h (fun x h' => lst L (fun k => a ≤ k ∧ k < b) x ∧ h' = h) := by
    intro m
    induction m with
    | zero =>
      intro i x hi ha hl hx
      refine r_X0_leastLatest_9 ⟨by omega, by omega, fun q => ⟨lst_iff (fun k => by omega) hl, rfl⟩, fun q => absurd q (by omega)⟩
    | succ m ih =>
      intro i x hi ha hl hx
      have hr := lst_r (fun k q => ⟨by have := (ok.2.1 k (by omega) (by omega)).1; omega, by have := (ok.2.1 k (by omega) (by omega)).1; omega⟩) hl
      obtain ⟨g1, g2, g3⟩ := hC.2 i (by omega) (by omega)
      obtain ⟨b1, b2⟩ := ok.2.1 i (by omega) (by omega)
      refine r_X0_leastLatest_9 ?_
      rw [f1, hC.1.1, g2]
      have nxt : ∀ y, y = (if x = -1 ∨ L i < x then L i else x) → XI mX0_leastLatest 9 [some (vR c), none, some (vI b), some (vI y), some (vI (i + 1))] [] w h (fun x h' => lst L (fun k => a ≤ k ∧ k < b) x ∧ h' = h) := by
        intro y hy
        have l2 := lst_more (i := i) hl (fun k q => by have := (ok.2.1 k (by omega) (by omega)).1; omega)
        rw [← hy] at l2
        refine ih (i + 1) y (by omega) (by omega) (lst_iff (fun k => by omega) l2) ?_
        rw [hy]; split <;> omega
      have hC4 := hC.1
      refine ⟨by omega, by omega, fun q => absurd q (by omega), fun q => ⟨s0, by omega, fun q2 => absurd q2 (by omega), fun q2 => ⟨by omega, fun q3 => ⟨t2, by omega, by omega, nxt _ ?_⟩, fun q3 => ⟨t2, by omega, by omega, by omega, fun q4 => nxt _ ?_, fun q4 => nxt _ ?_⟩⟩⟩⟩
      · rw [if_pos (Or.inl q3)]
      · rw [if_neg (by omega)]
      · rw [if_pos (by omega)]
  by_cases hab : a ≤ b
  · exact key (b - a).toNat a (-1) (by omega) (by omega) (Or.inl ⟨rfl, fun k => by omega⟩) (Or.inl rfl)
  · exact key 0 a (-1) (by omega) (by omega) (Or.inl ⟨rfl, fun k => by omega⟩) (Or.inl rfl)
theorem c_X0_waitsAt {u a b : Int} (sh : shCalls w c) (hC : isC w h c n F L W) (ok : okC n F L W) (hu : -1 ≤ u ∧ u ≤ 400) (h0 : 0 ≤ a) (h1 : a ≤ b) (h2 : b ≤ n) : CI mX0_waitsAt [vR c, vI u, vI a, vI b] w h (fun x h' => x = wsum F W u (b - a).toNat a ∧ h' = h) := by
  obtain ⟨s0, f0, f1, f2, f3, ⟨t1, t2, t3, t4⟩, ⟨l2, l3, l4⟩, l1⟩ := id sh
  have hn := ok.1
  refine e_X0_waitsAt (r_X0_waitsAt_0 ⟨by omega, ?_⟩)
  rw [show max a 0 = a by omega]
  have key : ∀ (m : Nat) (i x : Int), i + m = b → a ≤ i → ∀ y, y = x + wsum F W u m i → XI mX0_waitsAt 10 [some (vR c), some (vI u), none, some (vI b), some (vI x), some (vI i)] [] w h (fun x h' => x = y ∧ h' = h) := by
    intro m
    induction m with
    | zero =>
      intro i x hi ha y hy
      refine r_X0_waitsAt_10 ⟨by omega, by omega, fun q => ⟨by rw [hy]; simp [wsum], rfl⟩, fun q => absurd q (by omega)⟩
    | succ m ih =>
      intro i x hi ha y hy
      obtain ⟨g1, g2, g3⟩ := hC.2 i (by omega) (by omega)
      refine r_X0_waitsAt_10 ?_
      have hC4 := hC.1
      rw [f0, f2, hC.1.1, g1, g3]
      refine ⟨by omega, by omega, fun q => absurd q (by omega), fun q => ⟨s0, by omega, fun q2 => absurd q2 (by omega), fun q2 => ⟨t3, by omega, by omega, t1, by omega, ?_⟩⟩⟩
      intro z hz
      exact ih (i + 1) z (by omega) (by omega) y (by rw [hy, hz, wsum]; omega)
  exact key (b - a).toNat a 0 (by omega) (by omega) _ (by omega)
/-- whether a rule wakes at a tick -/
abbrev wantS (F L W : Int → Int) (r u p a b : Int) : Prop := a < b ∧ (r = 0 ∨ lst L (fun k => a ≤ k ∧ k < b) u ∨ (r = 2 ∧ p < wsum F W (u + 1) (b - a).toNat a))
theorem c_X0_wantWake {r u p a b : Int} (sh : shCalls w c) (hC : isC w h c n F L W) (ok : okC n F L W) (hr : inR r) (hu : 0 ≤ u ∧ u ≤ 300) (hp : 0 ≤ p ∧ p ≤ 100) (h0 : 0 ≤ a) (h1 : a ≤ b) (h2 : b ≤ n) : CI mX0_wantWake [vR c, vI r, vI u, vI p, vI a, vI b] w h (fun x h' => (x = 1 ∧ wantS F L W r u p a b ∨ x = 0 ∧ ¬ wantS F L W r u p a b) ∧ h' = h) := by
  have hn := ok.1
  refine e_X0_wantWake (r_X0_wantWake_0 ⟨by omega, by omega, fun q => ⟨hr, fun q2 => ⟨Or.inl ⟨rfl, q, Or.inl q2⟩, rfl⟩, fun q2 => ⟨sh.1, ?_⟩⟩, fun q => ⟨Or.inr ⟨rfl, fun z => q z.1⟩, rfl⟩⟩)
  refine (c_X0_leastLatest sh hC ok h0 (by omega) h2 (by omega)).mono ?_
  rintro x h' ⟨hl, rfl⟩
  have hL0 : ∀ k, a ≤ k ∧ k < b → 0 ≤ L k := fun k q => by have := (ok.2.1 k (by omega) (by omega)).1; omega
  have hx := lst_r (fun k q => ⟨by have := (ok.2.1 k (by omega) (by omega)).1; omega, by have := (ok.2.1 k (by omega) (by omega)).1; omega⟩) hl
  refine ⟨by omega, by omega, fun q3 => ⟨fun q4 => ⟨Or.inr ⟨rfl, ?_⟩, rfl⟩, fun q4 => ?_⟩, fun q3 => ⟨Or.inl ⟨rfl, q, Or.inr (Or.inl (q3 ▸ hl))⟩, rfl⟩⟩
  · rintro ⟨-, z | z | z⟩
    · exact q2 z
    · exact q3 (lst_one hL0 hl z)
    · exact q4 z.1
  · refine (c_X0_waitsAt sh hC ok (by omega) h0 h1 h2).eq ?_
    have hw := wsum_r ok (u := u + 1) (by omega) (b - a).toNat a h0 (by omega)
    refine ⟨by omega, by omega, fun q5 => ⟨Or.inr ⟨rfl, ?_⟩, rfl⟩, fun q5 => ⟨Or.inl ⟨rfl, q, Or.inr (Or.inr ⟨q4, by omega⟩)⟩, rfl⟩⟩
    rintro ⟨-, z | z | z⟩
    · exact q2 z
    · exact q3 (lst_one hL0 hl z)
    · omega
end
