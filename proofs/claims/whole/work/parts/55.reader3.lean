section
variable {w : WS} {h : AH} {n p o : Int} {B S N : Int → Int}
theorem isS_addT {a b c : Int} {h' : AH} (hS : isS h o S) (ok : okS S) (h8 : S 97 < 24) (e : h' = st (st (st (st h (o + 5) (h o 8) a) (o + 6) (h o 8) b) (o + 7) (h o 8) c) o 8 (h o 8 + 1)) : isS h' o (addT S a b c) ∧ h' (o + 1) = h (o + 1) ∧ ∀ x, (x < o ∨ o + 7 < x) → h' x = h x := by
  obtain ⟨y1, y2, y3, y4, y5, y6, y7⟩ := hS
  have k1 := ok.1
  have k2 := ok.2.1
  rw [y2] at e
  have fr : ∀ x, x ≠ o → x ≠ o + 5 → x ≠ o + 6 → x ≠ o + 7 → h' x = h x := fun x x0 x1 x2 x3 => by rw [e, st_row _ _ _ x0, st_row _ _ _ x3, st_row _ _ _ x2, st_row _ _ _ x1]
  have fo : ∀ j, j ≠ 8 → h' o j = h o j := fun j hj => by rw [e, st_slot _ _ _ _ hj, st_cell _ _ _ _ (by omega), st_cell _ _ _ _ (by omega), st_cell _ _ _ _ (by omega)]
  have f5 : ∀ j, h' (o + 5) j = if j = S 97 then a else h (o + 5) j := fun j => by
    rw [e, st_cell _ _ _ _ (by omega), st_cell _ _ _ _ (by omega), st_cell _ _ _ _ (by omega)]
    split
    · next q => rw [q, st_same]
    · next q => rw [st_slot _ _ _ _ q]
  have f6 : ∀ j, h' (o + 6) j = if j = S 97 then b else h (o + 6) j := fun j => by
    rw [e, st_cell _ _ _ _ (by omega), st_cell _ _ _ _ (by omega)]
    split
    · next q => rw [q, st_same]
    · next q => rw [st_slot _ _ _ _ q, st_cell _ _ _ _ (by omega)]
  have f7 : ∀ j, h' (o + 7) j = if j = S 97 then c else h (o + 7) j := fun j => by
    rw [e, st_cell _ _ _ _ (by omega)]
    split
    · next q => rw [q, st_same]
    · next q => rw [st_slot _ _ _ _ q, st_cell _ _ _ _ (by omega), st_cell _ _ _ _ (by omega)]
  have ad := addT_1 (S := S) (a := a) (b := b) (c := c) ⟨k2.1, h8⟩
  refine ⟨⟨?_, ?_, ?_, ?_, ?_, fun k k0 kk => ?_, fun t t0 tt => ?_⟩, fr _ (by omega) (by omega) (by omega) (by omega), fun x hx => fr x (by omega) (by omega) (by omega) (by omega)⟩
  · rw [fo _ (by decide), addT_o (by omega) (by omega) (by omega) (by omega)]; exact y1
  · rw [addT_n, e, st_same]
  · rw [fo _ (by decide), addT_o (by omega) (by omega) (by omega) (by omega)]; exact y3
  · rw [fo _ (by decide), addT_o (by omega) (by omega) (by omega) (by omega)]; exact y4
  · rw [fo _ (by decide), addT_o (by omega) (by omega) (by omega) (by omega)]; exact y5
  · rw [addT_o (by omega) (by omega) (by omega) (by omega)] at kk
    rw [fr (o + 2) (by omega) (by omega) (by omega) (by omega), fr (o + 3) (by omega) (by omega) (by omega) (by omega), fr (o + 4) (by omega) (by omega) (by omega) (by omega), addT_o (by omega) (by omega) (by omega) (by omega), addT_o (by omega) (by omega) (by omega) (by omega), addT_o (by omega) (by omega) (by omega) (by omega)]
    exact y6 k k0 kk
  · rw [addT_n] at tt
    rw [f5, f6, f7]
    by_cases q : t = S 97
    · rw [if_pos q, if_pos q, if_pos q, q, ad.1, ad.2.1, ad.2.2]; exact ⟨rfl, rfl, rfl⟩
    · rw [if_neg q, if_neg q, if_neg q, addT_o (by omega) (by omega) (by omega) (by omega), addT_o (by omega) (by omega) (by omega) (by omega), addT_o (by omega) (by omega) (by omega) (by omega)]
      exact y7 t t0 (by omega)
theorem isS_addK {v a b c : Int} {h' : AH} (hS : isS h o S) (ok : okS S) (h8 : S 96 < 8) (e : h' = st (st (st (st (st h (o + 1) (h o 4) v) (o + 2) (h o 4) a) (o + 3) (h o 4) b) (o + 4) (h o 4) c) o 4 (h o 4 + 1)) : isS h' o (addK S a b c) ∧ (∀ j, h' (o + 1) j = up (h (o + 1)) (S 96) v j) ∧ ∀ x, (x < o ∨ o + 7 < x) → h' x = h x := by
  obtain ⟨y1, y2, y3, y4, y5, y6, y7⟩ := hS
  have k1 := ok.1
  have k2 := ok.2.1
  rw [y1] at e
  have fr : ∀ x, x ≠ o → x ≠ o + 1 → x ≠ o + 2 → x ≠ o + 3 → x ≠ o + 4 → h' x = h x := fun x x0 x1 x2 x3 x4 => by rw [e, st_row _ _ _ x0, st_row _ _ _ x4, st_row _ _ _ x3, st_row _ _ _ x2, st_row _ _ _ x1]
  have fo : ∀ j, j ≠ 4 → h' o j = h o j := fun j hj => by rw [e, st_slot _ _ _ _ hj, st_cell _ _ _ _ (by omega), st_cell _ _ _ _ (by omega), st_cell _ _ _ _ (by omega), st_cell _ _ _ _ (by omega)]
  have f1 : ∀ j, h' (o + 1) j = up (h (o + 1)) (S 96) v j := fun j => by
    rw [e, st_cell _ _ _ _ (by omega), st_cell _ _ _ _ (by omega), st_cell _ _ _ _ (by omega), st_cell _ _ _ _ (by omega), up]
    split
    · next q => rw [q, st_same]
    · next q => rw [st_slot _ _ _ _ q]
  have f2 : ∀ j, h' (o + 2) j = if j = S 96 then a else h (o + 2) j := fun j => by
    rw [e, st_cell _ _ _ _ (by omega), st_cell _ _ _ _ (by omega), st_cell _ _ _ _ (by omega)]
    split
    · next q => rw [q, st_same]
    · next q => rw [st_slot _ _ _ _ q, st_cell _ _ _ _ (by omega)]
  have f3 : ∀ j, h' (o + 3) j = if j = S 96 then b else h (o + 3) j := fun j => by
    rw [e, st_cell _ _ _ _ (by omega), st_cell _ _ _ _ (by omega)]
    split
    · next q => rw [q, st_same]
    · next q => rw [st_slot _ _ _ _ q, st_cell _ _ _ _ (by omega), st_cell _ _ _ _ (by omega)]
  have f4 : ∀ j, h' (o + 4) j = if j = S 96 then c else h (o + 4) j := fun j => by
    rw [e, st_cell _ _ _ _ (by omega)]
    split
    · next q => rw [q, st_same]
    · next q => rw [st_slot _ _ _ _ q, st_cell _ _ _ _ (by omega), st_cell _ _ _ _ (by omega), st_cell _ _ _ _ (by omega)]
  have ad := addK_1 (S := S) (a := a) (b := b) (c := c) ⟨k1.1, h8⟩
  refine ⟨⟨?_, ?_, ?_, ?_, ?_, fun k k0 kk => ?_, fun t t0 tt => ?_⟩, f1, fun x hx => fr x (by omega) (by omega) (by omega) (by omega) (by omega)⟩
  · rw [addK_n, e, st_same]
  · rw [fo _ (by decide), addK_o (by omega) (by omega) (by omega) (by omega)]; exact y2
  · rw [fo _ (by decide), addK_o (by omega) (by omega) (by omega) (by omega)]; exact y3
  · rw [fo _ (by decide), addK_o (by omega) (by omega) (by omega) (by omega)]; exact y4
  · rw [fo _ (by decide), addK_o (by omega) (by omega) (by omega) (by omega)]; exact y5
  · rw [addK_n] at kk
    rw [f2, f3, f4]
    by_cases q : k = S 96
    · rw [if_pos q, if_pos q, if_pos q, q, ad.1, ad.2.1, ad.2.2]; exact ⟨rfl, rfl, rfl⟩
    · rw [if_neg q, if_neg q, if_neg q, addK_o (by omega) (by omega) (by omega) (by omega), addK_o (by omega) (by omega) (by omega) (by omega), addK_o (by omega) (by omega) (by omega) (by omega)]
      exact y6 k k0 (by omega)
  · rw [addK_o (by omega) (by omega) (by omega) (by omega)] at tt
    rw [fr (o + 5) (by omega) (by omega) (by omega) (by omega) (by omega), fr (o + 6) (by omega) (by omega) (by omega) (by omega) (by omega), fr (o + 7) (by omega) (by omega) (by omega) (by omega) (by omega), addK_o (by omega) (by omega) (by omega) (by omega), addK_o (by omega) (by omega) (by omega) (by omega), addK_o (by omega) (by omega) (by omega) (by omega)]
    exact y7 t t0 tt
/-- behind a fault -/
theorem lnR_f {h1 : AH} {r : R5} {f pl : Int} (hf : f ≠ 0) (e1 : r.1 = f) (e2 : r.2.1 = pl) (g1 : h1 2 1 = f) (g2 : h1 2 2 = pl) (fr : ∀ b, b ≠ 2 → b ≠ 3 → h1 b = h b) (g3 : h1 3 1 = n) : lnR h h1 o n B r := ⟨by rw [g1, e1], by rw [g2, e2], fun e => by omega, fun b b1 b2 _ => fr b b1 b2, g3⟩
theorem c_X3_timerLine {e : Int} (sA : shA w) (P : lnP h o n B S N p) (he : e = 0 ∨ e = 1) : CI mX3_timerLine [vR 2, vR o, vI e] w h (fun x h' => x = (if (pTim n B S N e p).1 = 0 then 1 else 0) ∧ lnR h h' o n B (pTim n B S N e p)) := by
  obtain ⟨ho, tp, tk, p0, ⟨hf, hp⟩, hS, hN, ok, oN⟩ := P
  have a0 := tkQ_r (B := B) p0
  have b0 := tkE_r (B := B) p0
  have h97 := ok.2.1
  refine e_X3_timerLine (r_X3_timerLine_0 sA ?_)
  rw [hS.2.1]
  -- the last number, with a fault and without
  have tailF : ∀ (f pl k pe : Int) (h3 : AH), f ≠ 0 → inR f → h3 2 1 = f → h3 2 2 = pl → h3 3 1 = n → (∀ b, b ≠ 2 → b ≠ 3 → h3 b = h b) → (pTim n B S N e p).1 = f → (pTim n B S N e p).2.1 = pl → CI mX3_takeNumber [vR 2, vI 0, vI 300] w h3 (fun x7 h6 => (inR (h6 2 1) ∧ ((h6 2 1 = 0 → CV mX5_addTimer [vR o, vI k, vI pe, vI x7] w h6 (fun h9 => 1 = (if (pTim n B S N e p).1 = 0 then (1 : Int) else 0) ∧ lnR h h9 o n B (pTim n B S N e p))) ∧ (¬ h6 2 1 = 0 → (0 = (if (pTim n B S N e p).1 = 0 then (1 : Int) else 0) ∧ lnR h h6 o n B (pTim n B S N e p)))))) := by
    intro f pl k pe h3 hf0 hfr g1 g2 g3 fr e1 e2
    refine (c_X3_takeNumberF sA (by omega) (by omega)).eq ?_
    refine ⟨by omega, fun c => absurd c (by omega), fun c => ⟨by rw [e1, if_neg hf0], lnR_f hf0 e1 e2 g1 g2 fr g3⟩⟩
  have tail : ∀ (k pe q : Int) (h3 : AH), (0 ≤ q ∧ q ≤ n) → h3 2 1 = 0 → h3 2 2 = -1 → isTk h3 3 n B q → (∀ b, b ≠ 2 → b ≠ 3 → h3 b = h b) → S 97 < 24 → pTim n B S N e p = pTim2 n B S N k pe q → CI mX3_takeNumber [vR 2, vI 0, vI 300] w h3 (fun x7 h6 => (inR (h6 2 1) ∧ ((h6 2 1 = 0 → CV mX5_addTimer [vR o, vI k, vI pe, vI x7] w h6 (fun h9 => 1 = (if (pTim n B S N e p).1 = 0 then (1 : Int) else 0) ∧ lnR h h9 o n B (pTim n B S N e p))) ∧ (¬ h6 2 1 = 0 → (0 = (if (pTim n B S N e p).1 = 0 then (1 : Int) else 0) ∧ lnR h h6 o n B (pTim n B S N e p)))))) := by
    intro k pe q h3 q0 g1 g2 tk3 fr h24 er
    rw [er]
    refine (c_X3_takeNumber sA (tpO_f tp (fr 4 (by decide) (by decide))) tk3 q0 g1 g2 (by decide) (by decide)).mono ?_
    rintro x h6 ⟨ex, ⟨q1, q2, q3⟩, q4⟩
    have g := (pNum_g (B := B) (p := q) (n := n) 0 300 q0).1
    have fo : ∀ b, b ≠ 2 → b ≠ 3 → h6 b = h b := fun b b1 b2 => (q4 b b1 b2).trans (fr b b1 b2)
    have e1 : (pTim2 n B S N k pe q).1 = (pNum n B 0 300 q).1 := rfl
    refine ⟨by omega, fun c => ?_, fun c => ?_⟩
    · have hS6 : isS h6 o S := isS_frame hS (fun b b1 b2 => fo b (by omega) (by omega))
      refine (c_X5_addTimer (fa_set sA ho) (by rw [hS6.2.1]; omega)).mono ?_
      intro h9 e9
      obtain ⟨d1, d2, d3⟩ := isS_addT hS6 ok h24 e9
      refine ⟨by rw [e1, if_pos (by omega)], by rw [d3 2 (by omega), q1]; rfl, by rw [d3 2 (by omega), q2]; rfl, fun _ => ⟨isTk_f q3 (d3 3 (by omega)), ?_, fun j j0 j1 => ?_⟩, fun b b1 b2 b3 => (d3 b b3).trans (fo b b1 b2), by rw [d3 3 (by omega)]; exact q3.1⟩
      · show isS h9 o (addT S k pe (pNum n B 0 300 q).2.2.2)
        rw [← ex]; exact d1
      · rw [d2, fo (o + 1) (by omega) (by omega)]
        refine hN j j0 ?_
        have : (pTim2 n B S N k pe q).2.2.2.1 96 = S 96 := by
          show addT S k pe _ 96 = S 96
          exact addT_o (by omega) (by omega) (by omega) (by omega)
        rw [this] at j1; exact j1
    · exact ⟨by rw [e1, if_neg (by omega)], lnR_f (f := (pNum n B 0 300 q).1) (by omega) rfl rfl q1 q2 fo q3.1⟩
  refine ⟨(fa_set sA ho).1, by omega, fun c => ?_, fun c h22 e22 => ?_⟩
  · refine (c_X3_takeKind (N := N) sA ho tp tk p0 hf hp hS.1 ok.1 (fun k k0 k1 => ⟨hN k k0 k1, okN_r oN k0 k1⟩)).mono ?_
    rintro x4 h3 ⟨ex, ⟨q1, q2, q3⟩, q4⟩
    obtain ⟨g, g2⟩ := pKnd_g (B := B) (N := N) (p := tkE n B p) (n := n) (c := S 96) ok.1.1 (by omega)
    by_cases z : (pKnd n B N (S 96) (tkE n B p)).1 = 0
    · have y := g2 z
      have er : pTim n B S N e p = pTim1 n B S N e x4 (pKnd n B N (S 96) (tkE n B p)).2.2.1 := by rw [pTim, if_neg (by omega), if_neg (fun k => k z), ex]
      refine ⟨by omega, fun c2 => ?_, fun c2 => ?_⟩
      · exact tail x4 0 _ h3 (by omega) (by omega) (by omega) q3 q4 (by omega) (by rw [er, pTim1, if_pos c2])
      · refine (c_X3_takeNumber sA (tpO_f tp (q4 4 (by decide) (by decide))) q3 (by omega) (by omega) (by omega) (by decide) (by decide)).mono ?_
        rintro x13 h12 ⟨ex2, ⟨u1, u2, u3⟩, u4⟩
        obtain ⟨g3, g4⟩ := pNum_g (B := B) (p := (pKnd n B N (S 96) (tkE n B p)).2.2.1) (n := n) 1 60 (by omega)
        have fo : ∀ b, b ≠ 2 → b ≠ 3 → h12 b = h b := fun b b1 b2 => (u4 b b1 b2).trans (q4 b b1 b2)
        by_cases z2 : (pNum n B 1 60 (pKnd n B N (S 96) (tkE n B p)).2.2.1).1 = 0
        · have y2 := g4 z2
          exact tail x4 x13 _ h12 (by omega) (by omega) (by omega) u3 fo (by omega) (by rw [er, pTim1, if_neg c2, if_neg (fun k => k z2), ex2])
        · have er2 : pTim n B S N e p = ((pNum n B 1 60 (pKnd n B N (S 96) (tkE n B p)).2.2.1).1, (pNum n B 1 60 (pKnd n B N (S 96) (tkE n B p)).2.2.1).2.1, (pKnd n B N (S 96) (tkE n B p)).2.2.1, S, N) := by rw [er, pTim1, if_neg c2, if_pos z2]
          exact tailF _ _ x4 x13 h12 z2 (by omega) u1 u2 u3.1 fo (by rw [er2]) (by rw [er2])
    · have er2 : pTim n B S N e p = ((pKnd n B N (S 96) (tkE n B p)).1, (pKnd n B N (S 96) (tkE n B p)).2.1, p, S, N) := by rw [pTim, if_neg (by omega), if_pos z]
      refine ⟨by omega, fun c2 => ?_, fun c2 => ?_⟩
      · exact tailF _ _ x4 0 h3 z (by omega) q1 q2 q3.1 q4 (by rw [er2]) (by rw [er2])
      · refine (c_X3_takeNumberF sA (by omega) (by omega)).eq ?_
        exact tailF _ _ x4 (-1) h3 z (by omega) q1 q2 q3.1 q4 (by rw [er2]) (by rw [er2])
  · have er2 : pTim n B S N e p = (4, tkQ n B p, p, S, N) := by rw [pTim, if_pos (by omega)]
    have f := failH_f h 4
    rw [er2, e22]
    exact ⟨(if_neg (show ¬ (4 : Int) = 0 by decide)).symm, lnR_f (f := 4) (by decide) rfl rfl f.1 (by rw [f.2.1]; exact tk.2.1) (fun b b1 _ => f.2.2 b b1) (by rw [f.2.2 3 (by decide)]; exact tk.1)⟩
theorem c_X3_closes {p : Int} (sA : shA w) (tp : tpO h n B) (tk : isTk h 3 n B p) (p0 : 0 ≤ p ∧ p ≤ n) : CI mX3_closes [vR 2] w h (fun x h' => (x = 1 ∧ tkT n B p = 5 ∧ isTk h' 3 n B (tkE n B p) ∧ ∀ b, b ≠ 3 → h' b = h b) ∨ (x = 0 ∧ tkT n B p ≠ 5 ∧ h' 2 1 = 1 ∧ h' 2 2 = tkQ n B p ∧ ∀ b, b ≠ 2 → h' b = h b)) := by
  obtain ⟨r1, r2, r3⟩ := isTk_r tk
  refine e_X3_closes (r_X3_closes_0 sA ⟨r1, fun c => (c_adv sA tp tk p0).mono ?_, fun c h3 e3 => ?_⟩)
  · rintro h' ⟨q1, q2⟩
    exact Or.inl ⟨rfl, by rw [← tk.2.2.2.1]; exact c, q1, q2⟩
  · have f := failH_f h 1
    rw [e3]
    exact Or.inr ⟨rfl, by rw [← tk.2.2.2.1]; exact c, f.1, by rw [f.2.1]; exact tk.2.1, f.2.2⟩
end
