def ap (n : Int) (f g : Int → Int) : Int → Int := fun k => if k < n then f k else g k
theorem ap_lt {n k : Int} {f g : Int → Int} (h : k < n) : ap n f g k = f k := if_pos h
theorem ap_ge {n k : Int} {f g : Int → Int} (h : ¬ k < n) : ap n f g k = g k := if_neg h
section
variable {w : WS} {h : AH} {g c o pl n N : Int} {F L W cf cl cw S : Int → Int}
theorem isC_add {x y z t : Int} {F' L' W' : Int → Int} (hC : isC w h c n F L W) (hcap : n < wl w (c + 1)) (h0 : 0 ≤ n) (e1 : ∀ k, 0 ≤ k → k < n → F' k = F k ∧ L' k = L k ∧ W' k = W k) (e2 : F' n = x ∧ L' n = y ∧ W' n = z) : isC w (st (st (st (st (st h (c + 1) (h c 4) x) (c + 2) (h c 4) y) (c + 3) (h c 4) z) (c + 4) (h c 4) t) c 4 (h c 4 + 1)) c (n + 1) F' L' W' := by
  obtain ⟨⟨p1, p2⟩, p3⟩ := hC
  refine ⟨⟨by rw [st_same, p1], by omega⟩, fun k k0 k1 => ?_⟩
  rw [p1, st_cell _ _ _ _ (show c + 1 ≠ c by omega), st_cell _ _ _ _ (show c + 2 ≠ c by omega), st_cell _ _ _ _ (show c + 3 ≠ c by omega), st_cell _ _ _ _ (show c + 1 ≠ c + 4 by omega), st_cell _ _ _ _ (show c + 2 ≠ c + 4 by omega), st_cell _ _ _ _ (show c + 3 ≠ c + 4 by omega), st_cell _ _ _ _ (show c + 1 ≠ c + 3 by omega), st_cell _ _ _ _ (show c + 2 ≠ c + 3 by omega), st_cell _ _ _ _ (show c + 1 ≠ c + 2 by omega)]
  by_cases e : k = n
  · subst e
    rw [st_same, st_same, st_same]
    exact ⟨e2.1.symm, e2.2.1.symm, e2.2.2.symm⟩
  · repeat rw [st_slot _ _ _ _ e]
    have := e1 k k0 (by omega)
    rw [this.1, this.2.1, this.2.2]
    exact p3 k k0 (by omega)
theorem c_X1_openWaits (sg : shHand w g) (hC : isC w h (g + 1) n F L W) (ok : okC n F L W) (hu : -1 ≤ h g 9 ∧ h g 9 ≤ 400) (ho : 0 ≤ h g 5 ∧ h g 5 ≤ n) : CI mX1_openWaits [vR g] w h (fun x h' => x = wsum F W (h g 9) (n - h g 5).toNat (h g 5) ∧ h' = h) := by
  refine e_X1_openWaits (r_X1_openWaits_0 ?_)
  rw [sg.2.1, hC.1.1]
  exact ⟨sg.1, sg.2.2.2.1.1, c_X0_waitsAt sg.2.2.2.1 hC ok hu ho.1 ho.2 (Int.le_refl _)⟩
theorem c_X1_openLatest (sg : shHand w g) (hC : isC w h (g + 1) n F L W) (ok : okC n F L W) (ho : 0 ≤ h g 5 ∧ h g 5 ≤ n) : CI mX1_openLatest [vR g] w h (fun x h' => lst L (fun k => h g 5 ≤ k ∧ k < n) x ∧ h' = h) := by
  have hn := ok.1
  refine e_X1_openLatest (r_X1_openLatest_0 ?_)
  rw [sg.2.1, hC.1.1]
  exact ⟨sg.1, sg.2.2.2.1.1, c_X0_leastLatest sg.2.2.2.1 hC ok ho.1 ho.2 (Int.le_refl _) hn.1⟩
def wakeH (h : AH) (g x n : Int) : AH := st (st (st (st h g 7 (h g 7 + x)) g 5 n) g 6 (h g 6 + 1)) g 8 (h g 9)
theorem c_X1_wakeHere (sg : shHand w g) (hC : isC w h (g + 1) n F L W) (ok : okC n F L W) (hu : -1 ≤ h g 9 ∧ h g 9 ≤ 400) (ho : 0 ≤ h g 5 ∧ h g 5 ≤ n) : CV mX1_wakeHere [vR g] w h (fun h' => h' = wakeH h g (wsum F W (h g 9) (n - h g 5).toNat (h g 5)) n) := by
  refine e_X1_wakeHere (r_X1_wakeHere_0 ⟨sg.1, (c_X1_openWaits sg hC ok hu ho).eq ?_⟩)
  intro h4 e4
  rw [sg.2.1]
  refine ⟨sg.2.2.2.1.1, ?_⟩
  have r1 : h4 (g + 1) 4 = n := by rw [e4, st_cell _ _ _ _ (show g + 1 ≠ g by omega)]; exact hC.1.1
  rw [r1]
  intro h7 e7
  have r2 : h7 g 6 = h g 6 := by rw [e7, st_slot _ _ _ _ (by decide), e4, st_slot _ _ _ _ (by decide)]
  rw [r2]
  intro h9 e9
  have r3 : h9 g 9 = h g 9 := by rw [e9, st_slot _ _ _ _ (by decide), e7, st_slot _ _ _ _ (by decide), e4, st_slot _ _ _ _ (by decide)]
  rw [r3]
  intro h11 e11
  rw [e11, e9, e7, e4]; rfl
/-- the calls of the row c that come now have come: those from p to e -/
def came (w : WS) (h h' : AH) (g n N p e : Int) (F L W cf cl cw : Int → Int) : Prop := (p ≤ e ∧ e ≤ N) ∧ (∀ j, p ≤ j → j < e → cf j = h g 9) ∧ h' g 3 = e ∧ isC w h' (g + 1) (n + (e - p)) (ap n F (fun _ => h g 9)) (ap n L (fun k => cl (k - n + p))) (ap n W (fun k => cw (k - n + p))) ∧ (e = p → h' g 2 = h g 2) ∧ (e ≠ p → h' g 2 = 0) ∧ (∀ i, i ≠ 2 → i ≠ 3 → h' g i = h g i) ∧ ∀ b, (b < g ∨ g + 5 < b) → h' b = h b
theorem c_X1_letCome (sg : shHand w g) (sc : shCalls w c) (hC : isC w h (g + 1) n F L W) (ok : okC n F L W) (hc : isC w h c N cf cl cw) (okc : okC N cf cl cw) (hd : g + 5 < c ∨ c + 4 < g) (hp : 0 ≤ h g 3 ∧ h g 3 ≤ N) (hcap : n + (N - h g 3) ≤ 300) (hu : inR (h g 9)) : CV mX1_letCome [vR g, vR c] w h (fun h' => ∃ e, came w h h' g n N (h g 3) e F L W cf cl cw ∧ (e = N ∨ cf e ≠ h g 9)) := by
  have hn := ok.1
  have hN := okc.1
  have hl := sg.2.2.2.2.2.1
  have s1 := sg.2.2.2.1
  have key : ∀ (d : Nat) (e : Int) (h1 : AH), e + d = N → came w h h1 g n N (h g 3) e F L W cf cl cw → XV mX1_letCome 0 [some (vR g), some (vR c)] [] w h1 (fun h' => ∃ e, came w h h' g n N (h g 3) e F L W cf cl cw ∧ (e = N ∨ cf e ≠ h g 9)) := by
    intro d
    induction d with
    | zero =>
      intro e h1 he hcm
      have hc1 := isC_frame hc (h' := h1) (fun b b1 b2 => hcm.2.2.2.2.2.2.2 b (by omega))
      refine r_X1_letCome_0 ?_
      rw [hc1.1.1, hcm.2.2.1]
      exact ⟨sg.1, sc.1, by omega, by omega, fun q => ⟨e, hcm, Or.inl (by omega)⟩, fun q => absurd q (by omega)⟩
    | succ d ih =>
      intro e h1 he hcm
      have hc1 := isC_frame hc (h' := h1) (fun b b1 b2 => hcm.2.2.2.2.2.2.2 b (by omega))
      obtain ⟨m1, m2, m3, m4, m5, m6, m7, m8⟩ := id hcm
      obtain ⟨g1, g2, g3⟩ := hc1.2 e (by omega) (by omega)
      obtain ⟨b1, b2⟩ := okc.2.1 e (by omega) (by omega)
      have e9 : h1 g 9 = h g 9 := m7 9 (by decide) (by decide)
      have sz := hc1.1
      refine r_X1_letCome_0 ?_
      rw [sg.2.1, hc1.1.1, m3, g1, g2, g3, e9, if_pos ⟨by omega, by omega⟩, if_pos ⟨by omega, by omega⟩, if_pos ⟨by omega, by omega⟩]
      refine ⟨sg.1, sc.1, by omega, by omega, fun q => absurd q (by omega), fun q => ⟨sc, by omega, by omega, hu, fun q2 => ⟨e, hcm, Or.inr q2⟩, fun q2 => ⟨s1.1, ?_⟩⟩⟩
      have sz1 := m4.1
      refine (c_X0_add s1 ⟨by omega, by rw [show g + 1 + 1 = g + 2 by omega]; omega⟩).eq ?_
      intro h3 e3
      intro h5 e5
      refine ih (e + 1) h5 (by omega) ⟨by omega, fun j j0 j1 => ?_, ?_, ?_, fun q => absurd q (by omega), fun q => ?_, fun i i0 i1 => ?_, fun b b0 => ?_⟩
      · by_cases ej : j = e
        · rw [ej]; exact q2
        · exact m2 j j0 (by omega)
      · rw [e5, st_same, e3, st_slot _ _ _ _ (by decide), st_cell _ _ _ _ (show g ≠ g + 1 by omega), st_cell _ _ _ _ (show g ≠ g + 1 + 4 by omega), st_cell _ _ _ _ (show g ≠ g + 1 + 3 by omega), st_cell _ _ _ _ (show g ≠ g + 1 + 2 by omega), st_cell _ _ _ _ (show g ≠ g + 1 + 1 by omega), m3]
      · have a1 := isC_add (x := h g 9) (y := cl e) (z := cw e) (t := if 0 ≤ e ∧ e < N then h1 (c + 4) e else -1) (F' := ap n F (fun _ => h g 9)) (L' := ap n L (fun k => cl (k - n + h g 3))) (W' := ap n W (fun k => cw (k - n + h g 3))) m4 (by rw [show g + 1 + 1 = g + 2 by omega]; omega) (by omega) (fun k _ _ => ⟨rfl, rfl, rfl⟩) ⟨ap_ge (by omega), by rw [ap_ge (by omega)]; congr 1; omega, by rw [ap_ge (by omega)]; congr 1; omega⟩
        rw [show n + (e + 1 - h g 3) = n + (e - h g 3) + 1 by omega]
        refine isC_frame a1 (fun b b1 b2 => ?_)
        rw [e5, st_row _ _ _ (show b ≠ g by omega), e3, st_row _ _ _ (show b ≠ g by omega)]
      · rw [e5, st_slot _ _ _ _ (by decide), e3, st_same]
      · rw [e5, st_slot _ _ _ _ i1, e3, st_slot _ _ _ _ i0, st_cell _ _ _ _ (show g ≠ g + 1 by omega), st_cell _ _ _ _ (show g ≠ g + 1 + 4 by omega), st_cell _ _ _ _ (show g ≠ g + 1 + 3 by omega), st_cell _ _ _ _ (show g ≠ g + 1 + 2 by omega), st_cell _ _ _ _ (show g ≠ g + 1 + 1 by omega)]
        exact m7 i i0 i1
      · rw [e5, st_row _ _ _ (show b ≠ g by omega), e3, st_row _ _ _ (show b ≠ g by omega), add_frame (by omega)]
        exact m8 b b0
  refine e_X1_letCome (key (N - h g 3).toNat (h g 3) h (by omega) ⟨by omega, fun j j0 j1 => by omega, rfl, ?_, fun _ => rfl, fun q => absurd rfl q, fun _ _ _ => rfl, fun _ _ => rfl⟩)
  rw [Int.sub_self, Int.add_zero]
  refine ⟨hC.1, fun k k0 k1 => ?_⟩
  rw [ap_lt k1, ap_lt k1, ap_lt k1]
  exact hC.2 k k0 k1
end
