section
variable {w : WS} {h : AH} {v c m n : Int} {t F L W : Int → Int}
theorem c_X7_firstFrom {u : Int} (sh : shWakes w v) (hW : isW w h v m t) (ok : okW m t) (hu : inR u) : CI mX7_firstFrom [vR v, vI u] w h (fun x h' => x = an m t u ∧ h' = h) := by
  obtain ⟨s0, f0, t1, l1⟩ := id sh
  obtain ⟨⟨w1, w2, w3⟩, w4⟩ := hW
  refine e_X7_firstFrom (r_X7_firstFrom_0 ⟨s0, ?_⟩)
  rw [w1]
  have key : ∀ (d : Nat) (a b i : Int), b - a ≤ d → 0 ≤ i → i + (b - a) ≤ m → 0 ≤ a → a ≤ b → b ≤ m → (∀ j, 0 ≤ j → j < a → t j < u) → (∀ j, b ≤ j → j < m → u ≤ t j) → XI mX7_firstFrom 10 [some (vR v), some (vI u), some (vI a), some (vI b), some (vI i), none] [] w h (fun x h' => x = an m t u ∧ h' = h) := by
    intro d
    induction d with
    | zero =>
      intro a b i hd h0 hi ha hab hb hl hr
      have e : a = b := by omega
      subst e
      have ea := an_at (m := m) (t := t) (u := u) ha hb hl (fun q => hr a (Int.le_refl _) q)
      refine r_X7_firstFrom_10 ?_
      rw [f0, w1]
      have fin1 : (m ≤ a → (-1 = an m t u ∧ h = h)) ∧ (¬ m ≤ a → (0 ≤ a ∧ a < wl w (v + 1) ∧ (h (v + 1) a = an m t u ∧ h = h))) := by
        refine ⟨fun q => ⟨by rw [ea, if_neg (by omega)], rfl⟩, fun q => ⟨ha, by omega, ?_, rfl⟩⟩
        rw [ea, if_pos (by omega), w4 a ha (by omega)]
      exact ⟨s0, t1, by omega, by omega, fun q => ⟨by omega, by omega, fin1⟩, fun q => ⟨by omega, by omega, fun q2 => ⟨by omega, fin1⟩, fun q2 => absurd q2 (by omega)⟩⟩
    | succ d ih =>
      intro a b i hd h0 hi ha hab hb hl hr
      by_cases e : a = b
      · exact ih a b i (by omega) h0 hi ha hab hb hl hr
      · refine r_X7_firstFrom_10 ?_
        rw [f0, w1]
        refine ⟨s0, t1, by omega, by omega, fun q => absurd q (by omega), fun q => ⟨by omega, by omega, fun q2 => absurd q2 (by omega), fun q2 => ⟨by omega, by omega, by omega, ?_⟩⟩⟩
        have em := w4 ((a + b) / 2) (by omega) (by omega)
        have er := ok.2.1 ((a + b) / 2) (by omega) (by omega)
        rw [em]
        refine ⟨by omega, hu, fun q3 => ?_, fun q3 => ?_⟩
        · refine ih _ _ _ (by omega) (by omega) (by omega) (by omega) (by omega) hb (fun j j0 j1 => ?_) hr
          by_cases ej : j = (a + b) / 2
          · rw [ej]; exact q3
          · have := ok.2.2 j ((a + b) / 2) j0 (by omega) (by omega); omega
        · refine ih _ _ _ (by omega) (by omega) (by omega) ha (by omega) (by omega) hl (fun j j0 j1 => ?_)
          by_cases ej : j = (a + b) / 2
          · rw [ej]; omega
          · have := ok.2.2 ((a + b) / 2) j (by omega) (by omega) j1; omega
  exact key m.toNat 0 m 0 (by omega) (by omega) (by omega) (by omega) w2 (by omega) (fun j a b => by omega) (fun j a b => by omega)
theorem c_X7_waitOf {k : Int} (sh : shWakes w v) (hW : isW w h v m t) (okw : okW m t) (sc : shCalls w c) (hC : isC w h c n F L W) (ok : okC n F L W) (kp : kept n F L m t) (h0 : 0 ≤ k) (h1 : k < n) : CI mX7_waitOf [vR v, vR c, vI k] w h (fun x h' => x = an m t (F k) - F k ∧ h' = h) := by
  obtain ⟨g1, g2, g3⟩ := hC.2 k h0 h1
  obtain ⟨b1, b2⟩ := ok.2.1 k h0 h1
  have hn := ok.1
  have hc := hC.1
  have kk := kp k h0 h1
  refine e_X7_waitOf (r_X7_waitOf_0 ?_)
  rw [g1, hc.1, if_pos ⟨h0, h1⟩]
  refine ⟨sc.1, sc, by omega, by omega, ?_⟩
  rintro y rfl
  refine ⟨sh.1, (c_X7_firstFrom sh hW okw (by omega)).eq ⟨by omega, by omega, rfl⟩⟩
theorem c_X7_waitsOf (sh : shWakes w v) (hW : isW w h v m t) (okw : okW m t) (sc : shCalls w c) (hC : isC w h c n F L W) (ok : okC n F L W) (kp : kept n F L m t) : CI mX7_waitsOf [vR v, vR c] w h (fun x h' => x = wts F W m t n.toNat ∧ h' = h) := by
  have hn := ok.1
  have hc := hC.1
  refine e_X7_waitsOf (r_X7_waitsOf_0 ?_)
  have key : ∀ (d i : Nat) (x : Int), i + d = n.toNat → x = wts F W m t i → XI mX7_waitsOf 4 [some (vR v), some (vR c), some (vI x), some (vI i)] [] w h (fun x h' => x = wts F W m t n.toNat ∧ h' = h) := by
    intro d
    induction d with
    | zero =>
      intro i x hi hx
      refine r_X7_waitsOf_4 ?_
      rw [hc.1]
      exact ⟨sc.1, by omega, by omega, fun q => ⟨by rw [hx]; congr 1, rfl⟩, fun q => absurd q (by omega)⟩
    | succ d ih =>
      intro i x hi hx
      obtain ⟨g1, g2, g3⟩ := hC.2 i (by omega) (by omega)
      refine r_X7_waitsOf_4 ?_
      rw [hc.1, g3]
      refine ⟨sc.1, by omega, by omega, fun q => absurd q (by omega), fun q => ⟨sc, by omega, sh.1, (c_X7_waitOf sh hW okw sc hC ok kp (by omega) (by omega)).eq ?_⟩⟩
      intro y hy
      refine ih (i + 1) y (by omega) ?_
      rw [hy, if_pos ⟨by omega, by omega⟩, hx]
      rfl
  exact key n.toNat 0 0 (by omega) rfl
theorem c_X7_costFor {p : Int} (sh : shWakes w v) (hW : isW w h v m t) (okw : okW m t) (sc : shCalls w c) (hC : isC w h c n F L W) (ok : okC n F L W) (kp : kept n F L m t) : CI mX7_costFor [vR v, vR c, vI p] w h (fun x h' => x = p * m + wts F W m t n.toNat ∧ h' = h) := by
  refine e_X7_costFor (r_X7_costFor_0 ⟨sh.1, (c_X7_waitsOf sh hW okw sc hC ok kp).eq ⟨?_, rfl⟩⟩)
  rw [hW.1.1]
theorem lwt_r (okw : okW m t) (ok : okC n F L W) (kp : kept n F L m t) : ∀ i : Nat, (i : Int) ≤ n → 0 ≤ lwt F m t i ∧ lwt F m t i ≤ 99 := by
  intro i
  induction i with
  | zero => intro _; exact ⟨Int.le_refl _, (show (0 : Int) ≤ 99 by decide)⟩
  | succ i ih =>
    intro hi
    have := ih (by omega)
    obtain ⟨b1, b2⟩ := ok.2.1 i (by omega) (by omega)
    have k := kp i (by omega) (by omega)
    unfold lwt
    omega
theorem c_X7_longestWait (sh : shWakes w v) (hW : isW w h v m t) (okw : okW m t) (sc : shCalls w c) (hC : isC w h c n F L W) (ok : okC n F L W) (kp : kept n F L m t) : CI mX7_longestWait [vR v, vR c] w h (fun x h' => x = lwt F m t n.toNat ∧ h' = h) := by
  have hn := ok.1
  have hc := hC.1
  refine e_X7_longestWait (r_X7_longestWait_0 ?_)
  have key : ∀ (d i : Nat) (x : Int), i + d = n.toNat → x = lwt F m t i → XI mX7_longestWait 4 [some (vR v), some (vR c), some (vI x), some (vI i)] [] w h (fun x h' => x = lwt F m t n.toNat ∧ h' = h) := by
    intro d
    induction d with
    | zero =>
      intro i x hi hx
      refine r_X7_longestWait_4 ?_
      rw [hc.1]
      exact ⟨sc.1, by omega, by omega, fun q => ⟨by rw [hx]; congr 1, rfl⟩, fun q => absurd q (by omega)⟩
    | succ d ih =>
      intro i x hi hx
      have hr := lwt_r okw ok kp i (by omega)
      obtain ⟨b1, b2⟩ := ok.2.1 i (by omega) (by omega)
      have kk := kp i (by omega) (by omega)
      refine r_X7_longestWait_4 ?_
      rw [hc.1]
      refine ⟨sc.1, by omega, by omega, fun q => absurd q (by omega), fun q => ⟨sh.1, (c_X7_waitOf sh hW okw sc hC ok kp (by omega) (by omega)).eq ⟨by omega, by omega, ?_⟩⟩⟩
      refine ih (i + 1) _ (by omega) ?_
      rw [hx]
      rfl
  exact key n.toNat 0 0 (by omega) rfl
theorem an_mono (okw : okW m t) {u u' : Int} (hu : u ≤ u') (h1 : u' ≤ an m t u') (h2 : 0 ≤ u) : an m t u ≤ an m t u' := by
  rcases an_ex m t u' okw.1.1 with ⟨e, -⟩ | ⟨p', q0, q1, q2, q3, q4⟩
  · omega
  · rcases an_ex m t u okw.1.1 with ⟨e, hl⟩ | ⟨p, p0, p1, p2, p3, p4⟩
    · have := hl p' q0 q1; omega
    · rw [p2, q2]
      by_cases c : p ≤ p'
      · by_cases e : p = p'
        · rw [e]; exact Int.le_refl _
        · have := okw.2.2 p p' p0 (by omega) q1; omega
      · have := p4 p' q0 (by omega); omega
theorem cntA_none {x : Int} : ∀ i : Nat, (∀ j : Nat, j < i → an m t (F j) ≠ x) → cntA F m t x i = 0 := by
  intro i
  induction i with
  | zero => intro _; rfl
  | succ i ih => intro H; rw [cntA, ih (fun j hj => H j (by omega)), if_neg (H i (by omega))]; rfl
theorem cntA_r (x : Int) : ∀ i : Nat, 0 ≤ cntA F m t x i ∧ cntA F m t x i ≤ i := by
  intro i
  induction i with
  | zero => exact ⟨Int.le_refl _, Int.le_refl _⟩
  | succ i ih => rw [cntA]; split <;> omega
theorem c_X7_mostAnswered (sh : shWakes w v) (hW : isW w h v m t) (okw : okW m t) (sc : shCalls w c) (hC : isC w h c n F L W) (ok : okC n F L W) (kp : kept n F L m t) : CI mX7_mostAnswered [vR v, vR c] w h (fun x h' => mostA F m t n x ∧ h' = h) := by
  have hn := ok.1
  have hc := hC.1
  refine e_X7_mostAnswered (r_X7_mostAnswered_0 ?_)
  have key : ∀ (d i : Nat) (x a b : Int), i + d = n.toNat → (i = 0 → x = 0 ∧ a = 0 ∧ b = -1) → (0 < i → b = an m t (F ((i : Int) - 1)) ∧ a = cntA F m t b i) → (∀ k : Nat, k < i → cntA F m t (an m t (F k)) i ≤ x) → ((i = 0 ∧ x = 0) ∨ ∃ k : Nat, k < i ∧ cntA F m t (an m t (F k)) i = x) → XI mX7_mostAnswered 10 [some (vR v), some (vR c), some (vI x), some (vI a), some (vI b), some (vI i), none] [] w h (fun x h' => mostA F m t n x ∧ h' = h) := by
    intro d
    induction d with
    | zero =>
      intro i x a b hi h0 h1 h2 h3
      refine r_X7_mostAnswered_10 ?_
      rw [hc.1]
      refine ⟨sc.1, by omega, by omega, fun q => ⟨⟨fun k k0 k1 => ?_, ?_⟩, rfl⟩, fun q => absurd q (by omega)⟩
      · have := h2 k.toNat (by omega)
        rw [show ((k.toNat : Nat) : Int) = k by omega] at this
        rw [show n.toNat = i by omega]; exact this
      · rcases h3 with h3 | ⟨k, k1, k2⟩
        · exact Or.inl ⟨by omega, h3.2⟩
        · exact Or.inr ⟨k, by omega, by omega, by rw [show n.toNat = i by omega]; exact k2⟩
    | succ d ih =>
      intro i x a b hi h0 h1 h2 h3
      obtain ⟨g1, g2, g3⟩ := hC.2 i (by omega) (by omega)
      obtain ⟨b1, b2⟩ := ok.2.1 i (by omega) (by omega)
      have kk := kp i (by omega) (by omega)
      have hx : 0 ≤ x ∧ x ≤ 300 := by
        rcases h3 with h3 | ⟨k, k1, k2⟩
        · omega
        · have := cntA_r (F := F) (m := m) (t := t) (an m t (F k)) i; omega
      have hb : inR b ∧ 0 ≤ a ∧ a ≤ 300 := by
        by_cases e : i = 0
        · have := h0 e; omega
        · obtain ⟨e1, e2⟩ := h1 (by omega)
          have k2 := kp ((i : Int) - 1) (by omega) (by omega)
          have k3 := (ok.2.1 ((i : Int) - 1) (by omega) (by omega)).1
          have := cntA_r (F := F) (m := m) (t := t) b i
          omega
      refine r_X7_mostAnswered_10 ?_
      rw [hc.1, g1, if_pos ⟨by omega, by omega⟩]
      refine ⟨sc.1, by omega, by omega, fun q => absurd q (by omega), fun q => ⟨sc, by omega, sh.1, (c_X7_firstFrom sh hW okw (by omega)).eq ?_⟩⟩
      have nxt : ∀ a', a' = cntA F m t (an m t (F i)) (i + 1) → XI mX7_mostAnswered 10 [some (vR v), some (vR c), some (vI (max x a')), some (vI a'), some (vI (an m t (F i))), some (vI ((i : Int) + 1)), none] [] w h (fun x h' => mostA F m t n x ∧ h' = h) := by
        intro a' ha'
        have hs : ∀ y, an m t (F i) ≠ y → cntA F m t y (i + 1) = cntA F m t y i := fun y hy => by rw [cntA, if_neg hy]; omega
        have hs1 : cntA F m t (an m t (F i)) (i + 1) = cntA F m t (an m t (F i)) i + 1 := by rw [cntA, if_pos rfl]
        refine ih (i + 1) _ _ _ (by omega) (fun e => by omega) (fun _ => ⟨by congr 2; omega, ha'⟩) (fun k hk => ?_) (Or.inr ?_)
        · by_cases ek : an m t (F i) = an m t (F k)
          · rw [← ek, ← ha']; omega
          · rw [hs _ ek]
            have := h2 k (by
              rcases Nat.lt_or_ge k i with q | q
              · exact q
              · exact absurd (by rw [show k = i by omega]) ek)
            omega
        · by_cases hm : x ≤ a'
          · exact ⟨i, by omega, by rw [← ha']; omega⟩
          · rcases h3 with h3 | ⟨k, k1, k2⟩
            · have := cntA_r (F := F) (m := m) (t := t) (an m t (F i)) (i + 1); omega
            · refine ⟨k, by omega, ?_⟩
              by_cases ek : an m t (F i) = an m t (F k)
              · rw [← ek] at k2; rw [hs1] at ha'; omega
              · rw [hs _ ek]; omega
      refine ⟨by omega, hb.1, fun q2 => ⟨by omega, ?_⟩, fun q2 => ⟨by omega, by omega, ?_⟩⟩
      · refine nxt 1 ?_
        rw [cntA, if_pos rfl, cntA_none i]
        · rfl
        · intro j hj ej
          by_cases e : i = 0
          · omega
          · obtain ⟨e1, -⟩ := h1 (by omega)
            have k3 := (ok.2.1 ((i : Int) - 1) (by omega) (by omega)).1
            have k4 := (ok.2.1 j (by omega) (by omega)).1
            have k2 := kp ((i : Int) - 1) (by omega) (by omega)
            have m1 := an_mono okw (ok.2.2 j ((i : Int) - 1) (by omega) (by omega) (by omega)) k2.1 (by omega)
            have m2 := an_mono okw (ok.2.2 ((i : Int) - 1) i (by omega) (by omega) (by omega)) kk.1 (by omega)
            omega
      · refine nxt (a + 1) ?_
        by_cases e : i = 0
        · have := h0 e; omega
        · obtain ⟨e1, e2⟩ := h1 (by omega)
          rw [cntA, if_pos rfl, q2, ← e2]
  exact key n.toNat 0 0 0 (-1) (by omega) (fun _ => ⟨rfl, rfl, rfl⟩) (fun q => by omega) (fun k hk => by omega) (Or.inl ⟨rfl, rfl⟩)
theorem stp_min {P Sy a b : Int} : min P (Sy * (b - a)) = stp P Sy a b := by
  unfold stp
  split <;> omega
theorem c_X7_energy {P Sy : Int} (sh : shWakes w v) (hW : isW w h v m t) (okw : okW m t) (hP : 0 ≤ P ∧ P ≤ 99) (hS : 0 ≤ Sy ∧ Sy ≤ 20) : CI mX7_energy [vR v, vI P, vI Sy] w h (fun x h' => x = enI P Sy t m.toNat ∧ h' = h) := by
  obtain ⟨s0, f0, t1, l1⟩ := id sh
  obtain ⟨⟨w1, w2, w3⟩, w4⟩ := hW
  have key : ∀ (d i : Nat) (x : Int), (i : Int) + 1 + d = m → x = enI P Sy t (i + 1) → XI mX7_energy 16 [some (vR v), some (vI P), some (vI Sy), some (vI x), some (vI ((i : Int) + 1))] [] w h (fun x h' => x = enI P Sy t m.toNat ∧ h' = h) := by
    intro d
    induction d with
    | zero =>
      intro i x hi hx
      refine r_X7_energy_16 ?_
      rw [w1]
      exact ⟨s0, by omega, by omega, fun q => ⟨by rw [hx]; congr 1; omega, rfl⟩, fun q => absurd q (by omega)⟩
    | succ d ih =>
      intro i x hi hx
      refine r_X7_energy_16 ?_
      have g1 := w4 ((i : Int) + 1) (by omega) (by omega)
      have g2 := w4 ((i : Int) + 1 - 1) (by omega) (by omega)
      have r1 := okw.2.1 ((i : Int) + 1) (by omega) (by omega)
      have r2 := okw.2.1 ((i : Int) + 1 - 1) (by omega) (by omega)
      have pr := mul_r (b := 300) hS (show -300 ≤ t ((i : Int) + 1) - t ((i : Int) + 1 - 1) ∧ t ((i : Int) + 1) - t ((i : Int) + 1 - 1) ≤ 300 by omega)
      rw [f0, w1, g1, g2]
      refine ⟨s0, by omega, by omega, fun q => absurd q (by omega), fun q => ⟨t1, by omega, by omega, by omega, by omega, by omega, by omega, ?_⟩⟩
      intro y hy
      refine ih (i + 1) y (by omega) ?_
      have ei : enI P Sy t (i + 1 + 1) = enI P Sy t (i + 1) + stp P Sy (t (((i + 1 : Nat) : Int) - 1)) (t ((i + 1 : Nat) : Int)) := by
        rw [enI, if_neg (by omega)]
      rw [hy, hx, stp_min, ei]
      rfl
  refine e_X7_energy (r_X7_energy_0 ?_)
  rw [w1]
  refine ⟨s0, by omega, fun q => ?_, fun q => ?_⟩
  · refine r_X7_energy_16 ?_
    rw [w1]
    exact ⟨s0, by decide, by omega, fun q2 => ⟨by rw [show m.toNat = 0 by omega]; rfl, rfl⟩, fun q2 => absurd q2 (by omega)⟩
  · exact key (m - 1).toNat 0 P (by omega) (by simp [enI])
theorem c_X7_liveEnergy {P Sy len : Int} (sh : shWakes w v) (hW : isW w h v m t) (okw : okW m t) (hP : 0 ≤ P ∧ P ≤ 99) (hS : 0 ≤ Sy ∧ Sy ≤ 20) (hl : 0 ≤ len ∧ len ≤ 300) : CI mX7_liveEnergy [vR v, vI P, vI Sy, vI len] w h (fun x h' => x = lvE P Sy len m t ∧ h' = h) := by
  obtain ⟨s0, f0, t1, l1⟩ := id sh
  obtain ⟨⟨w1, w2, w3⟩, w4⟩ := id hW
  have key : ∀ (a4 : Int), 0 ≤ a4 → a4 ≤ 1000000 → (a4 = awk P Sy ∨ (Sy = 0 ∧ 300 ≤ a4 ∧ 300 ≤ awk P Sy)) → ∀ (d i : Nat) (x : Int), (i : Int) + 1 + d = m → x = lvI P Sy t (i + 1) → XI mX7_liveEnergy 29 [some (vR v), some (vI P), some (vI Sy), some (vI len), some (vI a4), some (vI x), some (vI ((i : Int) + 1)), none] [] w h (fun x h' => x = lvE P Sy len m t ∧ h' = h) := by
    intro a4 ha ha2 hw d
    induction d with
    | zero =>
      intro i x hi hx
      refine r_X7_liveEnergy_29 ?_
      have g1 := w4 (m - 1) (by omega) (by omega)
      have r1 := okw.2.1 (m - 1) (by omega) (by omega)
      rw [w1, if_pos ⟨by omega, by omega⟩, g1]
      refine ⟨s0, by omega, by omega, fun q => ⟨sh, by omega, by omega, by omega, by omega, ?_, rfl⟩, fun q => absurd q (by omega)⟩
      unfold lvE
      rw [if_neg (by omega), hx, show m.toNat = i + 1 by omega]
      rcases hw with e | ⟨e, -⟩
      · rw [e, Int.min_comm]
      · rw [e, Int.zero_mul, Int.zero_mul]
    | succ d ih =>
      intro i x hi hx
      refine r_X7_liveEnergy_29 ?_
      have g1 := w4 ((i : Int) + 1) (by omega) (by omega)
      have g2 := w4 ((i : Int) + 1 - 1) (by omega) (by omega)
      have r1 := okw.2.1 ((i : Int) + 1) (by omega) (by omega)
      have r2 := okw.2.1 ((i : Int) + 1 - 1) (by omega) (by omega)
      have e2 : ((i : Int) + 1 - 1) = (((i + 1 : Nat) : Int) - 1) := by omega
      rw [f0, w1, g1, g2]
      refine ⟨s0, by omega, by omega, fun q => absurd q (by omega), fun q => ⟨t1, by omega, by omega, by omega, by omega, ?_⟩⟩
      intro y hy
      have ei : lvI P Sy t (i + 1 + 1) = lvI P Sy t (i + 1) + lvS P Sy (t (((i + 1 : Nat) : Int) - 1)) (t ((i + 1 : Nat) : Int)) := by
        rw [lvI, if_neg (by omega)]
      have ey : y = t ((i + 1 : Nat) : Int) - t (((i + 1 : Nat) : Int) - 1) := by rw [hy, e2]; rfl
      refine ⟨by omega, by omega, fun q2 => ?_, fun q2 => ?_⟩
      · refine ih (i + 1) _ (by omega) ?_
        rw [ei, ← hx]
        unfold lvS
        rw [← ey]
        rcases hw with e | ⟨e, e3, e4⟩
        · rw [if_neg (by omega), e]
        · omega
      · refine ih (i + 1) _ (by omega) ?_
        rw [ei, ← hx]
        unfold lvS
        rw [← ey]
        rcases hw with e | ⟨e, e3, e4⟩
        · rw [if_pos (by omega)]
        · rw [if_pos (by omega)]
  refine e_X7_liveEnergy (r_X7_liveEnergy_0 ?_)
  rw [w1]
  refine ⟨s0, by omega, fun q => ⟨by omega, fun q2 => ?_, fun q2 => ⟨by omega, by omega, ?_⟩⟩, fun q => ⟨by unfold lvE; rw [if_pos q], rfl⟩⟩
  · have e : Sy = 0 := by omega
    exact key 1000000 (by omega) (by omega) (Or.inr ⟨e, by omega, by unfold awk; rw [if_pos e]; omega⟩) (m - 1).toNat 0 P (by omega) (by simp [lvI])
  · have d1 := Int.ediv_nonneg hP.1 hS.1
    have d2 := Int.ediv_le_self Sy hP.1
    exact key (P / Sy) d1 (by omega) (Or.inl (by unfold awk; rw [if_neg (by omega)])) (m - 1).toNat 0 P (by omega) (by simp [lvI])
end
