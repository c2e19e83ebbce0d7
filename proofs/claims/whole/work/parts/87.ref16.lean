def RA (h : AH) (S : Int → Int) : Prop := ∀ j, 0 ≤ j → j < 101 → h 66 (101 + j) = S j
def RN (h : AH) (S N : Int → Int) : Prop := ∀ k, 0 ≤ k → k < S 96 → h 68 (8 + k) = c27 6 (N k)
/-- what a line may change -/
def fR (h h' : AH) : Prop := (∀ b, b ≠ 65 → b ≠ 66 → b ≠ 68 → h' b = h b) ∧ (∀ j, j < 101 → h' 66 j = h 66 j) ∧ ∀ i, (i < 4 ∨ (5 < i ∧ i < 34) ∨ 38 < i) → h' 65 i = h 65 i
def rpI (h : AH) (n : Int) (B S N : Int → Int) (p : Int) : Prop := tpR h n B ∧ isTM h n B p ∧ (0 ≤ p ∧ p ≤ n) ∧ (h 65 4 = 0 ∧ h 65 5 = -1) ∧ RA h S ∧ RN h S N ∧ (okS S ∧ okN S N) ∧ isQh h
def rlR (h h' : AH) (n : Int) (B : Int → Int) (r : R5) : Prop := h' 65 4 = r.1 ∧ h' 65 5 = r.2.1 ∧ (r.1 = 0 → isTM h' n B r.2.2.1 ∧ RA h' r.2.2.2.1 ∧ RN h' r.2.2.2.1 r.2.2.2.2) ∧ fR h h'
section
variable {w : WS} {h : AH} {n p : Int} {B S N : Int → Int}
theorem fR_rfl (h : AH) : fR h h := ⟨fun _ _ _ _ => rfl, fun _ _ => rfl, fun _ _ => rfl⟩
theorem fR_tr {h1 h2 : AH} (a : fR h h1) (b : fR h1 h2) : fR h h2 := ⟨fun x x1 x2 x3 => (b.1 x x1 x2 x3).trans (a.1 x x1 x2 x3), fun j hj => (b.2.1 j hj).trans (a.2.1 j hj), fun i hi => (b.2.2 i hi).trans (a.2.2 i hi)⟩
theorem fP_R {h' : AH} (a : fP h h') : fR h h' := ⟨fun b b1 _ _ => a.1 b b1, fun j _ => by rw [a.1 66 (by decide)], a.2⟩
theorem fR_66 {h1 : AH} {i v : Int} (a : fR h h1) (hi : 101 ≤ i) : fR h (st h1 66 i v) := ⟨fun b b1 b2 b3 => by rw [st_row _ _ _ b2]; exact a.1 b b1 b2 b3, fun j hj => by rw [st_slot _ _ _ _ (by omega)]; exact a.2.1 j hj, fun j hj => by rw [st_cell _ _ _ _ (by decide)]; exact a.2.2 j hj⟩
theorem fR_68 {h1 : AH} {i v : Int} (a : fR h h1) : fR h (st h1 68 i v) := ⟨fun b b1 b2 b3 => by rw [st_row _ _ _ b3]; exact a.1 b b1 b2 b3, fun j hj => by rw [st_cell _ _ _ _ (by decide)]; exact a.2.1 j hj, fun j hj => by rw [st_cell _ _ _ _ (by decide)]; exact a.2.2 j hj⟩
theorem fR_Q {h' : AH} (a : fR h h') (Q : isQh h) : isQh h' := by
  unfold isQh
  rw [a.1 (-2) (by decide) (by decide) (by decide)]
  exact Q
theorem fR_T {h' : AH} (a : fR h h') (T : tpR h n B) : tpR h' n B := ⟨T.1, by rw [a.2.2 33 (by decide)]; exact T.2.1, fun i i0 i1 => by rw [a.1 67 (by decide) (by decide) (by decide)]; exact T.2.2.1 i i0 i1, T.2.2.2⟩
theorem rlR_f {h1 : AH} {r : R5} {f pl : Int} (hf : f ≠ 0) (e1 : r.1 = f) (e2 : r.2.1 = pl) (g1 : h1 65 4 = f) (g2 : h1 65 5 = pl) (fr : fR h h1) : rlR h h1 n B r := ⟨by rw [g1, e1], by rw [g2, e2], fun e => by omega, fr⟩
theorem st66_M {h1 : AH} {i v : Int} (M : isTM h1 n B p) : isTM (st h1 66 i v) n B p := isTM_f M (fun j _ _ => st_cell _ _ _ _ (by decide))
theorem c_X9_readsTimer {e : Int} (sA : shA w) (P : rpI h n B S N (tkE n B p)) (he : e = 0 ∨ e = 1) : CV mX9_readsTimer [vR 65, vI (tkQ n B p), vI e] w h (fun h' => rlR h h' n B (pTim n B S N e p)) := by
  obtain ⟨T, M, p0, ⟨hg, hp⟩, ra, rn, ⟨ok, oN⟩, Qh⟩ := P
  have h97 := ok.2.1
  have k96 := ok.1
  have e197 : h 66 197 = S 96 := ra 96 (by decide) (by decide)
  have e198 : h 66 198 = S 97 := ra 97 (by decide) (by decide)
  have at54F : ∀ (f pl x4 x5 x6 : Int) (h3 : AH), f ≠ 0 → inR f → h3 65 4 = f → h3 65 5 = pl → fR h h3 → (pTim n B S N e p).1 = f → (pTim n B S N e p).2.1 = pl → XV mX9_readsTimer 54 [some (vR 65), none, none, some (vI (S 97)), some (vI x4), some (vI x5), some (vI x6)] [] w h3 (fun h' => rlR h h' n B (pTim n B S N e p)) := by
    intro f pl x4 x5 x6 h3 f0 fr g1 g2 fo e1 e2
    exact r_X9_readsTimer_54 sA ⟨by omega, fun c => absurd c (by omega), fun _ => rlR_f f0 e1 e2 g1 g2 fo⟩
  have at44F : ∀ (f pl x4 x5 : Int) (h3 : AH), f ≠ 0 → inR f → h3 65 4 = f → h3 65 5 = pl → fR h h3 → (pTim n B S N e p).1 = f → (pTim n B S N e p).2.1 = pl → XV mX9_readsTimer 44 [some (vR 65), none, none, some (vI (S 97)), some (vI x4), some (vI x5), none] [] w h3 (fun h' => rlR h h' n B (pTim n B S N e p)) := by
    intro f pl x4 x5 h3 f0 fr g1 g2 fo e1 e2
    exact r_X9_readsTimer_44 sA ((c_X9_numeralB sA (by omega) (by omega)).eq (at54F f pl x4 x5 0 h3 f0 fr g1 g2 fo e1 e2))
  have at44 : ∀ (k pe q : Int) (h3 : AH), (0 ≤ q ∧ q ≤ n) → h3 65 4 = 0 → h3 65 5 = -1 → isTM h3 n B q → fP h h3 → S 97 < 24 → pTim n B S N e p = pTim2 n B S N k pe q → XV mX9_readsTimer 44 [some (vR 65), none, none, some (vI (S 97)), some (vI k), some (vI pe), none] [] w h3 (fun h' => rlR h h' n B (pTim n B S N e p)) := by
    intro k pe q h3 q0 g1 g2 M3 f3 h24 er
    rw [er]
    refine r_X9_readsTimer_44 sA ((c_X9_numeral sA (tpR_P T f3) M3 q0 g1 g2 (by decide) (by decide)).mono ?_)
    rintro x h6 ⟨f6, u1, u2, u3⟩
    have g := (pNum_g (B := B) (p := q) (n := n) 0 300 q0).1
    have fo := fP_tr f3 f6
    refine r_X9_readsTimer_54 sA ⟨by omega, fun c => ⟨by omega, by omega, fun h4 e4 => ⟨by omega, by omega, fun h8 e8 => ⟨by omega, by omega, fun h12 e12 h14 e14 => ?_⟩⟩⟩, fun c => ?_⟩
    · obtain ⟨v1, v2⟩ := u3 (by omega)
      have t6 : h6 66 = h 66 := fo.1 66 (by decide)
      have e12' : h12 66 198 = S 97 := by rw [e12, st_slot _ _ _ _ (by omega), e8, st_slot _ _ _ _ (by omega), e4, st_slot _ _ _ _ (by omega), t6]; exact e198
      rw [e12'] at e14
      have fr : fR h h14 := by rw [e14, e12, e8, e4]; exact fR_66 (fR_66 (fR_66 (fR_66 (fP_R fo) (by omega)) (by omega)) (by omega)) (by omega)
      refine ⟨?_, ?_, fun _ => ⟨?_, fun j j0 j1 => ?_, fun j j0 j1 => ?_⟩, fr⟩
      · rw [e14, st_cell _ _ _ _ (by decide), e12, st_cell _ _ _ _ (by decide), e8, st_cell _ _ _ _ (by decide), e4, st_cell _ _ _ _ (by decide), u1]; rfl
      · rw [e14, st_cell _ _ _ _ (by decide), e12, st_cell _ _ _ _ (by decide), e8, st_cell _ _ _ _ (by decide), e4, st_cell _ _ _ _ (by decide), u2]; rfl
      · rw [e14, e12, e8, e4]; exact st66_M (st66_M (st66_M (st66_M v2)))
      · show h14 66 (101 + j) = addT S k pe (pNum n B 0 300 q).2.2.2 j
        rw [← v1]
        have ad := addT_1 (S := S) (a := k) (b := pe) (c := x) ⟨h97.1, h24⟩
        by_cases y : j = 97
        · rw [y, addT_n, e14, show (101 : Int) + 97 = 198 from rfl, st_same]
        · rw [e14, st_slot _ _ _ _ (by omega)]
          by_cases y3 : j = 72 + S 97
          · rw [y3, ad.2.2, e12, show 101 + (72 + S 97) = 173 + S 97 by omega, st_same]
          · rw [e12, st_slot _ _ _ _ (by omega)]
            by_cases y2 : j = 48 + S 97
            · rw [y2, ad.2.1, e8, show 101 + (48 + S 97) = 149 + S 97 by omega, st_same]
            · rw [e8, st_slot _ _ _ _ (by omega)]
              by_cases y1 : j = 24 + S 97
              · rw [y1, ad.1, e4, show 101 + (24 + S 97) = 125 + S 97 by omega, st_same]
              · rw [e4, st_slot _ _ _ _ (by omega), t6, addT_o y y1 y2 y3]
                exact ra j j0 j1
      · have e96 : (pTim2 n B S N k pe q).2.2.2.1 96 = S 96 := by
          show addT S k pe _ 96 = S 96
          exact addT_o (by omega) (by omega) (by omega) (by omega)
        rw [e96] at j1
        rw [e14, st_cell _ _ _ _ (by decide), e12, st_cell _ _ _ _ (by decide), e8, st_cell _ _ _ _ (by decide), e4, st_cell _ _ _ _ (by decide), fo.1 68 (by decide)]
        exact rn j j0 j1
    · exact rlR_f (f := (pNum n B 0 300 q).1) (by omega) rfl rfl u1 u2 (fP_R fo)
  have kn : ∀ h3 : AH, fP h h3 → h3 66 197 = S 96 ∧ ∀ k, 0 ≤ k → k < S 96 → h3 68 (8 + k) = c27 6 (N k) ∧ dg 6 (N k) := fun h3 f3 => ⟨by rw [f3.1 66 (by decide)]; exact e197, fun k k0 k1 => ⟨by rw [f3.1 68 (by decide)]; exact rn k k0 k1, oN k k0 k1⟩⟩
  refine e_X9_readsTimer (r_X9_readsTimer_0 sA ?_)
  rw [e198]
  refine ⟨by omega, fun c => r_X9_readsTimer_21 sA ((c_X9_known (N := N) sA Qh T M p0 hg hp e197 k96 (kn h (fP_rfl h)).2).mono ?_), fun c => (c_X9_failsG sA hg).mono fun h2 e2 => ?_⟩
  · rintro x h1 ⟨f1, u1, u2, u3⟩
    obtain ⟨g, g2⟩ := pKnd_g (B := B) (N := N) (p := tkE n B p) (n := n) (c := S 96) k96.1 p0
    by_cases z : (pKnd n B N (S 96) (tkE n B p)).1 = 0
    · obtain ⟨v1, v2⟩ := u3 z
      have y := g2 z
      have er : pTim n B S N e p = pTim1 n B S N e x (pKnd n B N (S 96) (tkE n B p)).2.2.1 := by rw [pTim, if_neg (by omega), if_neg (fun k => k z), v1]
      refine ⟨by omega, fun c2 => at44 x 0 _ h1 (by omega) (by omega) (by omega) v2 f1 (by omega) (by rw [er, pTim1, if_pos c2]), fun c2 => ?_⟩
      refine (c_X9_numeral sA (tpR_P T f1) v2 (by omega) (by omega) (by omega) (by decide) (by decide)).mono ?_
      rintro x5 h4 ⟨f4, s1, s2, s3⟩
      obtain ⟨g3, g4⟩ := pNum_g (B := B) (p := (pKnd n B N (S 96) (tkE n B p)).2.2.1) (n := n) 1 60 (by omega)
      by_cases z2 : (pNum n B 1 60 (pKnd n B N (S 96) (tkE n B p)).2.2.1).1 = 0
      · obtain ⟨t1, t2⟩ := s3 z2
        have y2 := g4 z2
        exact at44 x x5 _ h4 (by omega) (by omega) (by omega) t2 (fP_tr f1 f4) (by omega) (by rw [er, pTim1, if_neg c2, if_neg (fun k => k z2), t1])
      · have er2 : pTim n B S N e p = ((pNum n B 1 60 (pKnd n B N (S 96) (tkE n B p)).2.2.1).1, (pNum n B 1 60 (pKnd n B N (S 96) (tkE n B p)).2.2.1).2.1, (pKnd n B N (S 96) (tkE n B p)).2.2.1, S, N) := by rw [er, pTim1, if_neg c2, if_pos z2]
        exact at44F _ _ x x5 h4 z2 (by omega) s1 s2 (fP_R (fP_tr f1 f4)) (by rw [er2]) (by rw [er2])
    · have er2 : pTim n B S N e p = ((pKnd n B N (S 96) (tkE n B p)).1, (pKnd n B N (S 96) (tkE n B p)).2.1, p, S, N) := by rw [pTim, if_neg (by omega), if_pos z]
      refine ⟨by omega, fun c2 => at44F _ _ x 0 h1 z (by omega) u1 u2 (fP_R f1) (by rw [er2]) (by rw [er2]), fun c2 => (c_X9_numeralB sA (by omega) (by omega)).eq ?_⟩
      exact at44F _ _ x 1 h1 z (by omega) u1 u2 (fP_R f1) (by rw [er2]) (by rw [er2])
  · have er2 : pTim n B S N e p = (4, tkQ n B p, p, S, N) := by rw [pTim, if_pos (by omega)]
    obtain ⟨a1, a2, a3, a4⟩ := fP_fail e2
    refine r_X9_readsTimer_21 sA ((c_X9_knownB sA (by omega) (by omega)).eq ⟨by omega, fun c2 => ?_, fun c2 => (c_X9_numeralB sA (by omega) (by omega)).eq ?_⟩)
    · exact at44F 4 _ 0 0 h2 (by decide) (by decide) a2 a3 (fP_R a1) (by rw [er2]) (by rw [er2])
    · exact at44F 4 _ 0 1 h2 (by decide) (by decide) a2 a3 (fP_R a1) (by rw [er2]) (by rw [er2])
end
