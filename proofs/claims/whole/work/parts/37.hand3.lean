section
variable {w : WS} {h : AH} {g c o pl n N : Int} {F L W cf cl cw S : Int → Int}
def begH (h : AH) (g : Int) : AH := st (st (st (st (st (st (st (st (st (st h (g + 1) 4 0) g 2 0) g 3 0) g 4 0) g 5 0) g 6 0) g 7 0) g 8 (-1)) g 9 0) g 10 2
theorem begH_f (h : AH) (g : Int) : begH h g g 2 = 0 ∧ begH h g g 3 = 0 ∧ begH h g g 4 = 0 ∧ begH h g g 5 = 0 ∧ begH h g g 6 = 0 ∧ begH h g g 7 = 0 ∧ begH h g g 8 = -1 ∧ begH h g g 9 = 0 ∧ begH h g g 10 = 2 ∧ begH h g (g + 1) 4 = 0 := by
  unfold begH
  simp [st]
theorem begH_o (h : AH) (g : Int) {b : Int} (h1 : b ≠ g) (h2 : b ≠ g + 1) : begH h g b = h b := by
  unfold begH
  repeat rw [st_row _ _ _ h1]
  rw [st_row _ _ _ h2]
theorem c_X1_begin (sg : shHand w g) (sc : shCalls w c) (hc : isC w h c N cf cl cw) (okc : okC N cf cl cw) (hN : N ≤ 200) (hd : g + 5 < c ∨ c + 4 < g) : CV mX1_begin [vR g, vR c] w h (fun h' => ∃ e, came w (begH h g) h' g 0 N 0 e (fun _ => 0) (fun _ => 0) (fun _ => 0) cf cl cw ∧ (e = N ∨ cf e ≠ 0)) := by
  refine e_X1_begin (r_X1_begin_0 ?_)
  rw [sg.2.1]
  refine ⟨sg.1, sg.2.2.2.1.1, ?_⟩
  rintro _ rfl _ rfl _ rfl _ rfl _ rfl _ rfl _ rfl _ rfl _ rfl
  change CV mX1_letCome [vR g, vR c] w (begH h g) _
  obtain ⟨b2, b3, b4, b5, b6, b7, b8, b9, b10, bc⟩ := begH_f h g
  have hl := sg.2.2.2.2.2.1
  have hC : isC w (begH h g) (g + 1) 0 (fun _ => 0) (fun _ => 0) (fun _ => 0) := ⟨⟨bc, by rw [show g + 1 + 1 = g + 2 by omega]; omega⟩, fun k k0 k1 => by omega⟩
  have hc1 := isC_frame hc (h' := begH h g) (fun b x1 x2 => begH_o h g (by omega) (by omega))
  have := c_X1_letCome sg sc hC ⟨by omega, fun k k0 k1 => by omega, fun j k a b c => by omega⟩ hc1 okc hd (by rw [b3]; have := okc.1; omega) (by rw [b3]; omega) (by rw [b9]; decide)
  rw [b3, b9] at this
  exact this
/-- a tick has gone by: woken or not, then the calls come -/
def tick1 (h : AH) (g : Int) : AH := st h g 9 (h g 9 + 1)
theorem tick1_f (h : AH) (g : Int) : tick1 h g g 9 = h g 9 + 1 ∧ (∀ i, i ≠ 9 → tick1 h g g i = h g i) ∧ ∀ b, b ≠ g → tick1 h g b = h b := ⟨st_same _ _ _ _, fun i hi => st_slot _ _ _ _ hi, fun b hb => st_row _ _ _ hb⟩
theorem wakeH_f (h : AH) (g x n : Int) : wakeH h g x n g 5 = n ∧ wakeH h g x n g 6 = h g 6 + 1 ∧ wakeH h g x n g 7 = h g 7 + x ∧ wakeH h g x n g 8 = h g 9 ∧ (∀ i, i ≠ 5 → i ≠ 6 → i ≠ 7 → i ≠ 8 → wakeH h g x n g i = h g i) ∧ ∀ b, b ≠ g → wakeH h g x n b = h b := by
  refine ⟨by simp [wakeH, st], by simp [wakeH, st], by simp [wakeH, st], by simp [wakeH, st], fun i a b c d => by simp [wakeH, st, a, b, c, d], fun b hb => by unfold wakeH; repeat rw [st_row _ _ _ hb]⟩
theorem c_X1_passTick {p : Int} (sg : shHand w g) (sc : shCalls w c) (hC : isC w h (g + 1) n F L W) (ok : okC n F L W) (hc : isC w h c N cf cl cw) (okc : okC N cf cl cw) (hd : g + 5 < c ∨ c + 4 < g) (hp : 0 ≤ h g 3 ∧ h g 3 ≤ N) (hcap : n + (N - h g 3) ≤ 300) (hu : 0 ≤ h g 9 ∧ h g 9 ≤ 300) (ho : 0 ≤ h g 5 ∧ h g 5 ≤ n) (hr : inR (h g 10)) (hpr : 0 ≤ p ∧ p ≤ 100) : CI mX1_passTick [vR g, vR c, vI p] w h (fun x h' => ∃ h1 e, ((x = 0 ∧ ¬ wantS F L W (h g 10) (h g 9) p (h g 5) n ∧ h1 = tick1 h g) ∨ (x = 1 ∧ wantS F L W (h g 10) (h g 9) p (h g 5) n ∧ h1 = tick1 (wakeH h g (wsum F W (h g 9) (n - h g 5).toNat (h g 5)) n) g)) ∧ came w h1 h' g n N (h g 3) e F L W cf cl cw ∧ (e = N ∨ cf e ≠ h g 9 + 1)) := by
  have hn := ok.1
  refine e_X1_passTick (r_X1_passTick_0 ?_)
  rw [sg.2.1, hC.1.1]
  refine ⟨sg.1, sg.2.2.2.1.1, (c_X0_wantWake sg.2.2.2.1 hC ok hr hu hpr ho.1 ho.2 (Int.le_refl _)).mono ?_⟩
  rintro x h3 ⟨hx, rfl⟩
  have fin : ∀ h1 : AH, h1 g 9 = h3 g 9 + 1 → h1 g 3 = h3 g 3 → (∀ b, b ≠ g → h1 b = h3 b) → CV mX1_letCome [vR g, vR c] w h1 (fun h' => ∃ e, came w h1 h' g n N (h3 g 3) e F L W cf cl cw ∧ (e = N ∨ cf e ≠ h3 g 9 + 1)) := by
    intro h1 e9 e3 ef
    have hC1 := isC_frame hC (h' := h1) (fun b x1 x2 => ef b (by omega))
    have hc1 := isC_frame hc (h' := h1) (fun b x1 x2 => ef b (by omega))
    have := c_X1_letCome sg sc hC1 ok hc1 okc hd (by rw [e3]; exact hp) (by rw [e3]; exact hcap) (by rw [e9]; omega)
    rw [e3, e9] at this
    exact this
  refine ⟨by omega, fun z => ?_, fun z => ?_⟩
  · have hx := hx.resolve_left (fun q => by omega)
    intro h6 e6
    have e6 : h6 = tick1 h3 g := e6
    obtain ⟨t1, t2, t3⟩ := tick1_f h3 g
    rw [← e6] at t1 t2 t3
    refine (fin h6 t1 (t2 3 (by decide)) t3).mono ?_
    rintro h8 ⟨e, he⟩
    exact ⟨Or.inl z, h6, e, Or.inl ⟨z, hx.2, e6⟩, he⟩
  · have hx := hx.resolve_right (fun q => by omega)
    refine (c_X1_wakeHere sg hC ok (by omega) ho).mono ?_
    intro h10 e10 h11 e11
    have e11 : h11 = tick1 h10 g := e11
    obtain ⟨t1, t2, t3⟩ := tick1_f h10 g
    obtain ⟨w1, w2, w3, w4, w5, w6⟩ := wakeH_f h3 g (wsum F W (h3 g 9) (n - h3 g 5).toNat (h3 g 5)) n
    rw [← e10] at w1 w2 w3 w4 w5 w6
    rw [← e11] at t1 t2 t3
    refine (fin h11 (by rw [t1, w5 9 (by decide) (by decide) (by decide) (by decide)]) (by rw [t2 3 (by decide), w5 3 (by decide) (by decide) (by decide) (by decide)]) (fun b hb => (t3 b hb).trans (w6 b hb))).mono ?_
    rintro h13 ⟨e, he⟩
    exact ⟨Or.inr hx.1, h11, e, Or.inr ⟨hx.1, hx.2, by rw [e11, e10]⟩, he⟩
def rungH (h : AH) (g n a b : Int) : AH := st (st (st (st (st (st (st h (g + 2) n (h g 9)) (g + 3) n a) (g + 4) n b) (g + 5) n (-1)) (g + 1) 4 (n + 1)) g 4 (h g 4 + 1)) g 2 0
theorem c_X1_addRung {a b : Int} (sg : shHand w g) (hn : h (g + 1) 4 = n) (h0 : 0 ≤ n ∧ n < 300) (hl : inR (h g 8)) (hu : inR (h g 9)) : CV mX1_addRung [vR g, vI a, vI b] w h (fun h' => h' = if h g 8 = h g 9 then st (rungH h g n a b) g 5 (n + 1) else rungH h g n a b) := by
  have s1 := sg.2.2.2.1
  have hcap := sg.2.2.2.2.2.1
  refine e_X1_addRung (r_X1_addRung_0 ?_)
  rw [sg.2.1]
  refine ⟨sg.1, s1.1, (c_X0_add s1 (by rw [hn, show g + 1 + 1 = g + 2 by omega]; omega)).eq ?_⟩
  rw [hn]
  intro h4 e4 h6 e6
  have e46 : h6 = rungH h g n a b := by
    rw [e6, e4]
    unfold rungH
    rw [show g + 1 + 1 = g + 2 by omega, show g + 1 + 2 = g + 3 by omega, show g + 1 + 3 = g + 4 by omega, show g + 1 + 4 = g + 5 by omega, st_cell _ _ _ _ (show g ≠ g + 1 by omega), st_cell _ _ _ _ (show g ≠ g + 5 by omega), st_cell _ _ _ _ (show g ≠ g + 4 by omega), st_cell _ _ _ _ (show g ≠ g + 3 by omega), st_cell _ _ _ _ (show g ≠ g + 2 by omega)]
  have f : ∀ i, i ≠ 2 → i ≠ 4 → h6 g i = h g i := fun i i1 i2 => by
    rw [e46]; unfold rungH
    rw [st_slot _ _ _ _ i1, st_slot _ _ _ _ i2, st_cell _ _ _ _ (show g ≠ g + 1 by omega), st_cell _ _ _ _ (show g ≠ g + 5 by omega), st_cell _ _ _ _ (show g ≠ g + 4 by omega), st_cell _ _ _ _ (show g ≠ g + 3 by omega), st_cell _ _ _ _ (show g ≠ g + 2 by omega)]
  have c4 : h6 (g + 1) 4 = n + 1 := by
    rw [e46]; unfold rungH
    rw [st_cell _ _ _ _ (show g + 1 ≠ g by omega), st_cell _ _ _ _ (show g + 1 ≠ g by omega), st_same]
  rw [f 8 (by decide) (by decide), f 9 (by decide) (by decide), c4]
  refine ⟨hl, hu, fun q => by rw [if_neg q]; exact e46, fun q h10 e10 => by rw [if_pos q, e10, e46]⟩
theorem c_X1_hindsight (sg : shHand w g) (sp : shPlan w pl) (ss : shSetup w o) (hC : isC w h (g + 1) n F L W) (ok : okC n F L W) (hS : isS h o S) (okS : okS S) (hL : ∀ k, 0 ≤ k → k < n → L k ≤ S 98) (hk : h g 2 = 0 ∨ (h g 2 = 1 ∧ planS n F L W S 1 (h (g + 6) 1) (h (g + 7)) ∧ h (g + 6) 1 ≤ n)) (d1 : pl + 3 < g ∨ g + 7 < pl) (d2 : pl + 3 < o ∨ o + 7 < pl) (d3 : g + 7 < o ∨ o + 7 < g) : CR mX1_hindsight [vR g, vR pl, vR o] w h (fun x h' => x = g + 6 ∧ (h' g 2 = 1 ∧ planS n F L W S 1 (h' (g + 6) 1) (h' (g + 7)) ∧ h' (g + 6) 1 ≤ n) ∧ (∀ i, i ≠ 2 → h' g i = h g i) ∧ ∀ b, (b < pl ∨ pl + 3 < b) → b ≠ g → b ≠ g + 6 → b ≠ g + 7 → h' b = h b) := by
  have hn := ok.1
  have sw := sg.2.2.2.2.1
  refine e_X1_hindsight (r_X1_hindsight_0 ?_)
  rw [sg.2.1, sg.2.2.1]
  refine ⟨sg.1, by omega, fun q => ⟨rfl, hk.resolve_left q, fun _ _ => rfl, fun _ _ _ _ _ => rfl⟩, fun q => ⟨sp.1, ?_⟩⟩
  refine (c_X2_make (plan := 1) sp sw sg.2.2.2.1 ss hC ok hS okS hL (by rw [show g + 6 + 1 = g + 7 by omega, sg.2.2.2.2.2.2]; omega) (by omega) (by omega) d2 (by omega) (by omega) (by omega)).mono ?_
  rintro h4 ⟨m1, m2, m3⟩
  rw [show g + 6 + 1 = g + 7 by omega] at m1 m3
  intro h5 e5
  have o5 : ∀ b, b ≠ g → h5 b = h4 b := fun b hb => by rw [e5]; exact st_row _ _ _ hb
  refine ⟨rfl, ⟨by rw [e5, st_same], by rw [o5 _ (show g + 6 ≠ g by omega), o5 _ (show g + 7 ≠ g by omega)]; exact m1, by rw [o5 _ (show g + 6 ≠ g by omega)]; exact m2⟩, fun i hi => by rw [e5, st_slot _ _ _ _ hi, m3 g (by omega) (by omega) (by omega)], fun b b0 b1 b2 b3 => (o5 b b1).trans (m3 b b0 b2 b3)⟩
theorem c_X1_costOf {v m p : Int} {t : Int → Int} (sg : shHand w g) (sw : shWakes w v) (hW : isW w h v m t) (okw : okW m t) (hC : isC w h (g + 1) n F L W) (ok : okC n F L W) (kp : kept n F L m t) : CI mX1_costOf [vR g, vR v, vI p] w h (fun x h' => x = p * m + wts F W m t n.toNat ∧ h' = h) := by
  refine e_X1_costOf (r_X1_costOf_0 ?_)
  rw [sg.2.1]
  exact ⟨sg.1, sw.1, c_X7_costFor sw hW okw sg.2.2.2.1 hC ok kp⟩
end
