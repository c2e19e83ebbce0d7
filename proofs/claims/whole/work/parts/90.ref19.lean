/-! ===== the reference reads a text ===== -/
section
variable {w : WS} {h : AH} {n p : Int} {B S N : Int → Int}
theorem c_X9_readCalls (sA : shA w) (ra : RA h S) (ok : okS S) : CI mX9_readCalls [vR 65] w h (fun x h' => x = inAll S (S 97).toNat ∧ h' = h) := by
  have k97 := ok.2.1
  have k98 := ok.2.2.1
  have e198 : h 66 198 = S 97 := ra 97 (by decide) (by decide)
  have e199 : h 66 199 = S 98 := ra 98 (by decide) (by decide)
  have key : ∀ (d : Nat) (i : Nat), (i : Int) + d = S 97 → XI mX9_readCalls 4 [some (vR 65), some (vI (inAll S i)), some (vI i), none, none] [] w h (fun x h' => x = inAll S (S 97).toNat ∧ h' = h) := by
    intro d
    induction d with
    | zero =>
      intro i hi
      refine r_X9_readCalls_4 sA ⟨by omega, by omega, fun _ => ⟨?_, rfl⟩, fun c => absurd c (by omega)⟩
      rw [show (S 97).toNat = i by omega]
    | succ d ih =>
      intro i hi
      have kt := ok.2.2.2.2.2.2 i (by omega) (by omega)
      have e48 : h 66 (149 + (i : Int)) = S (48 + i) := by rw [show (149 : Int) + i = 101 + (48 + i) by omega]; exact ra _ (by omega) (by omega)
      have e72 : h 66 (173 + (i : Int)) = S (72 + i) := by rw [show (173 : Int) + i = 101 + (72 + i) by omega]; exact ra _ (by omega) (by omega)
      have go : ∀ v : Int, v = inAll S (i + 1) → XI mX9_readCalls 4 [some (vR 65), some (vI v), some (vI ((i : Int) + 1)), none, none] [] w h (fun x h' => x = inAll S (S 97).toNat ∧ h' = h) := by
        intro v ev
        rw [ev]
        exact ih (i + 1) (by omega)
      refine r_X9_readCalls_4 sA ?_
      rw [e48, e72, e198, e199]
      refine ⟨by omega, by omega, fun c => absurd c (by omega), fun _ => ⟨by omega, by omega, by omega, by omega, fun y ey => ⟨by omega, fun c => ⟨by omega, fun c2 => ⟨by omega, by omega, fun z ez => go z ?_⟩, fun c2 => go _ ?_⟩, fun c => go _ ?_⟩⟩⟩
      · rw [inAll, if_neg (by omega), if_neg (by omega), ez, ey]
      · rw [inAll, if_neg (by omega), if_pos (by omega)]
      · rw [inAll, if_pos (by omega)]
  exact e_X9_readCalls (r_X9_readCalls_0 sA (key (S 97).toNat 0 (by omega)))
theorem c_X9_firsts {b : Int} (sA : shA w) (hb : b = 0 ∨ b = 101) : CV mX9_firsts [vR 65, vI b] w h (fun h' => (∀ j, 0 ≤ j → j < 101 → h' 66 (b + j) = S0 j) ∧ (∀ j, (j < b ∨ b + 101 ≤ j) → h' 66 j = h 66 j) ∧ ∀ x, x ≠ 66 → h' x = h x) := by
  have key : ∀ (d : Nat) (i : Int) (h1 : AH), i + d = 101 → 0 ≤ i → (∀ j, 0 ≤ j → j < i → h1 66 (b + j) = 0) → (∀ j, (j < b ∨ b + 101 ≤ j) → h1 66 j = h 66 j) → (∀ x, x ≠ 66 → h1 x = h x) → XV mX9_firsts 2 [some (vR 65), some (vI b), some (vI i)] [] w h1 (fun h' => (∀ j, 0 ≤ j → j < 101 → h' 66 (b + j) = S0 j) ∧ (∀ j, (j < b ∨ b + 101 ≤ j) → h' 66 j = h 66 j) ∧ ∀ x, x ≠ 66 → h' x = h x) := by
    intro d
    induction d with
    | zero =>
      intro i h1 hi i0 a1 a2 a3
      refine r_X9_firsts_2 sA ⟨by omega, fun _ => ⟨by omega, by omega, fun h4 e4 => ⟨by omega, by omega, fun h8 e8 => ⟨by omega, by omega, fun h12 e12 => ⟨fun j j0 j1 => ?_, fun j hj => ?_, fun x hx => ?_⟩⟩⟩⟩, fun c => absurd c (by omega)⟩
      · unfold S0
        by_cases c0 : j = 100
        · rw [c0, if_neg (by decide), if_neg (by decide), if_pos rfl, e12, st_same]
        · rw [e12, st_slot _ _ _ _ (by omega)]
          by_cases c1 : j = 99
          · rw [c1, if_neg (by decide), if_pos rfl, e8, st_same]
          · rw [e8, st_slot _ _ _ _ (by omega)]
            by_cases c2 : j = 98
            · rw [c2, if_pos rfl, e4, st_same]
            · rw [e4, st_slot _ _ _ _ (by omega), if_neg c2, if_neg c1, if_neg c0]
              exact a1 j j0 (by omega)
      · rw [e12, st_slot _ _ _ _ (by omega), e8, st_slot _ _ _ _ (by omega), e4, st_slot _ _ _ _ (by omega)]; exact a2 j hj
      · rw [e12, st_row _ _ _ hx, e8, st_row _ _ _ hx, e4, st_row _ _ _ hx]; exact a3 x hx
    | succ d ih =>
      intro i h1 hi i0 a1 a2 a3
      refine r_X9_firsts_2 sA ⟨by omega, fun c => absurd c (by omega), fun _ => ⟨by omega, by omega, fun h2 e2 => ih (i + 1) h2 (by omega) (by omega) (fun j j0 j1 => ?_) (fun j hj => ?_) (fun x hx => ?_)⟩⟩
      · by_cases c : j = i
        · rw [c, e2, st_same]
        · rw [e2, st_slot _ _ _ _ (by omega)]; exact a1 j j0 (by omega)
      · rw [e2, st_slot _ _ _ _ (by omega)]; exact a2 j hj
      · rw [e2, st_row _ _ _ hx]; exact a3 x hx
  exact e_X9_firsts (r_X9_firsts_0 sA (key 101 0 h (by omega) (by omega) (fun j j0 j1 => by omega) (fun _ _ => rfl) (fun _ _ => rfl)))
/-- what a text leaves of the reference -/
def txtM (h h' : AH) (S : Int → Int) (q : HS) (x : Int) (r : R5) : Prop := h' 65 4 = r.1 ∧ h' 65 5 = r.2.1 ∧ h' 65 3 = 0 ∧ (∀ b, b < 65 → h' b = h b) ∧ ((r.1 ≠ 0 ∧ x = -1 ∧ invM h' S q) ∨ (r.1 = 0 ∧ x = r.2.2.2.1 97 ∧ invM h' r.2.2.2.1 (g0 r.2.2.2.1, fun _ => 0, cL r.2.2.2.1, cW r.2.2.2.1, fun _ => 0)))
/-- what the text may have changed -/
def fX (h h' : AH) : Prop := (∀ b, b ≠ 65 → b ≠ 66 → b ≠ 68 → h' b = h b) ∧ (∀ j, j < 101 → h' 66 j = h 66 j) ∧ (∀ i, (i < 3 ∨ (5 < i ∧ i < 33) ∨ 38 < i) → h' 65 i = h 65 i) ∧ h' 65 3 = 0
theorem fX_R {h1 h2 : AH} (a : fX h h1) (b : fR h1 h2) : fX h h2 := ⟨fun x x1 x2 x3 => (b.1 x x1 x2 x3).trans (a.1 x x1 x2 x3), fun j hj => (b.2.1 j hj).trans (a.2.1 j hj), fun i hi => (b.2.2 i (by omega)).trans (a.2.2.1 i hi), (b.2.2 3 (by decide)).trans a.2.2.2⟩
theorem fX_M {h1 : AH} {q : HS} (a : fX h h1) (I : invM h S q) : invM h1 S q := by
  refine ⟨fun j j0 j1 => by rw [a.2.1 j j1]; exact I.1 j j0 j1, ?_⟩
  unfold mH
  rw [a.2.2.1 20 (by decide), a.2.2.1 21 (by decide), a.2.2.1 22 (by decide), a.2.2.1 23 (by decide), a.2.2.1 24 (by decide), a.2.2.1 25 (by decide), a.1 77 (by decide) (by decide) (by decide), a.1 78 (by decide) (by decide) (by decide), a.1 79 (by decide) (by decide) (by decide), a.1 80 (by decide) (by decide) (by decide)]
  exact I.2
theorem c_X9_text {q : HS} (sA : shA w) (Qh : isQh h) (hn : h 65 3 = n) (n0 : 0 ≤ n ∧ n ≤ 600) (hB : ∀ i, 0 ≤ i → i < n → h 67 i = B i % 256) (hR : ∀ i, 0 ≤ i → i < n → -128 ≤ B i ∧ B i ≤ 127) (I : invM h S q) : CI mX9_text [vR 65] w h (fun x h' => txtM h h' S q x (pAll n B)) := by
  have gA := pAll_g (n := n) (B := B) n0
  -- a fault
  have at85F : ∀ h1 : AH, fX h h1 → (pAll n B).1 ≠ 0 → h1 65 4 = (pAll n B).1 → h1 65 5 = (pAll n B).2.1 → XI mX9_text 85 [some (vR 65), none] [] w h1 (fun x h' => txtM h h' S q x (pAll n B)) := by
    intro h1 fx nz g1 g2
    have b1 := gA.1.1.1
    refine r_X9_text_85 sA ⟨by omega, fun c => absurd c (by omega), fun _ => ?_⟩
    exact ⟨g1, g2, fx.2.2.2, fun b hb => fx.1 b (by omega) (by omega) (by omega), Or.inl ⟨nz, rfl, fX_M fx I⟩⟩
  -- none
  have at85 : ∀ (pe : Int) (S1 N1 : Int → Int) (h1 : AH), fX h h1 → pAll n B = (0, -1, pe, S1, N1) → okS S1 → inAll S1 (S1 97).toNat ≤ 200 → h1 65 4 = 0 → h1 65 5 = -1 → RA h1 S1 → XI mX9_text 85 [some (vR 65), none] [] w h1 (fun x h' => txtM h h' S q x (pAll n B)) := by
    intro pe S1 N1 h1 fx ea ok1 ic g1 g2 ra
    rw [ea]
    have iN : okS S1 ∧ cN S1 ≤ 200 := ⟨ok1, by rw [cN_eq ok1]; exact ic⟩
    refine r_X9_text_85 sA ⟨by omega, fun _ => ?_, fun c => absurd g1 c⟩
    have at125 : ∀ (d : Nat) (i : Int) (h2 : AH), i + d = 8 → 0 ≤ i → (∀ b, b < 65 → h2 b = h b) → h2 65 = h1 65 → isAll h2 S1 → XI mX9_text 125 [some (vR 65), some (vI i)] [] w h2 (fun x h' => txtM h h' S q x (0, -1, pe, S1, N1)) := by
      intro d
      induction d with
      | zero =>
        intro i h2 hi i0 lo e65 A
        refine r_X9_text_125 sA ⟨by omega, fun _ => (c_X9_begins sA A iN).mono ?_, fun c => absurd c (by omega)⟩
        rintro h3 ⟨m3, k3⟩
        refine ⟨by rw [k3.2 4 (by decide), e65]; exact g1, by rw [k3.2 5 (by decide), e65]; exact g2, by rw [k3.2 3 (by decide), e65]; exact fx.2.2.2, fun b hb => by rw [k3.1 b (by omega) (by omega)]; exact lo b hb, Or.inr ⟨rfl, ?_, kH_all k3 A, m3⟩⟩
        exact (kH_all k3 A) 97 (by decide) (by decide)
      | succ d ih =>
        intro i h2 hi i0 lo e65 A
        refine r_X9_text_125 sA ⟨by omega, fun c => absurd c (by omega), fun _ => ⟨by omega, by omega, by omega, by omega, fun h3 e3 => ih (i + 1) h3 (by omega) (by omega) (fun b hb => by rw [e3, st_row _ _ _ (by omega)]; exact lo b hb) (by rw [e3, st_row _ _ _ (by decide)]; exact e65) (fun j j0 j1 => by rw [e3, st_cell _ _ _ _ (by decide)]; exact A j j0 j1)⟩⟩
    have at96 : ∀ (d : Nat) (i : Int) (h2 : AH), i + d = 101 → 0 ≤ i → (∀ b, b < 65 → h2 b = h b) → h2 65 = h1 65 → RA h2 S1 → (∀ j, 0 ≤ j → j < i → h2 66 j = S1 j) → XI mX9_text 96 [some (vR 65), some (vI i)] [] w h2 (fun x h' => txtM h h' S q x (0, -1, pe, S1, N1)) := by
      intro d
      induction d with
      | zero =>
        intro i h2 hi i0 lo e65 r2 A
        refine r_X9_text_96 sA ⟨by omega, fun _ => at125 8 0 h2 (by omega) (by omega) lo e65 (fun j j0 j1 => A j j0 (by omega)), fun c => absurd c (by omega)⟩
      | succ d ih =>
        intro i h2 hi i0 lo e65 r2 A
        refine r_X9_text_96 sA ⟨by omega, fun c => absurd c (by omega), fun _ => ⟨by omega, by omega, by omega, by omega, fun h3 e3 => ih (i + 1) h3 (by omega) (by omega) (fun b hb => by rw [e3, st_row _ _ _ (by omega)]; exact lo b hb) (by rw [e3, st_row _ _ _ (by decide)]; exact e65) (fun j j0 j1 => by rw [e3, st_slot _ _ _ _ (by omega)]; exact r2 j j0 j1) (fun j j0 j1 => ?_)⟩⟩
        by_cases c : j = i
        · rw [c, e3, st_same]; exact r2 i i0 (by omega)
        · rw [e3, st_slot _ _ _ _ (by omega)]; exact A j j0 (by omega)
    exact at96 101 0 h1 (by omega) (by omega) (fun b hb => fx.1 b (by omega) (by omega) (by omega)) rfl ra (fun j j0 j1 => by omega)
  -- at the end of all lines
  have at59F : ∀ h1 : AH, fX h h1 → (pAll n B).1 ≠ 0 → h1 65 4 = (pAll n B).1 → h1 65 5 = (pAll n B).2.1 → XI mX9_text 59 [some (vR 65), none] [] w h1 (fun x h' => txtM h h' S q x (pAll n B)) := by
    intro h1 fx nz g1 g2
    have b1 := gA.1.1.1
    exact r_X9_text_59 sA ⟨by omega, fun _ => at85F h1 fx nz g1 g2, fun c => absurd c (by omega)⟩
  have at59 : ∀ (p : Int) (S1 N1 : Int → Int) (h1 : AH), fX h h1 → rpI h1 n B S1 N1 p → tkT n B p = 0 → pTxt n B 600 0 S0 (fun _ => 0) = (0, -1, p, S1, N1) → XI mX9_text 59 [some (vR 65), none] [] w h1 (fun x h' => txtM h h' S q x (pAll n B)) := by
    intro p S1 N1 h1 fx P ht er
    obtain ⟨T, M, p0, ⟨hg, hp⟩, ra, rn, ⟨ok, oN⟩, -⟩ := P
    have ir : inR (inAll S1 (S1 97).toNat) := by
      have := inAll_r ok (S1 97).toNat (by have := ok.2.1; omega)
      have := ok.2.1
      omega
    refine r_X9_text_59 sA ⟨by omega, fun c => absurd hg c, fun _ => (c_X9_readCalls sA ra ok).eq ⟨ir, fun c => ?_, fun c => (c_X9_failsG sA hg).mono fun h5 e5 => ?_⟩⟩
    · exact at85 p S1 N1 h1 fx (by rw [pAll, er, if_neg (fun k => k rfl), if_pos c]) ok c hg hp ra
    · obtain ⟨a1, a2, a3, a4⟩ := fP_fail e5
      have ea : pAll n B = (5, n, 0, S0, fun _ => 0) := by rw [pAll, er, if_neg (fun k => k rfl), if_neg c]
      exact at85F h5 (fX_R fx (fP_R a1)) (by rw [ea]; exact (show ¬ (5 : Int) = 0 by decide)) (by rw [ea]; exact a2) (by rw [ea]; exact a3.trans T.2.1)
  have key : ∀ (d : Nat) (p : Int) (S1 N1 : Int → Int) (h1 : AH), fX h h1 → n ≤ p + d → rpI h1 n B S1 N1 p → pTxt n B 600 0 S0 (fun _ => 0) = pTxt n B d p S1 N1 → XI mX9_text 38 [some (vR 65), none] [] w h1 (fun x h' => txtM h h' S q x (pAll n B)) := by
    intro d
    induction d with
    | zero =>
      intro p S1 N1 h1 fx hd P er
      have M := P.2.1
      have p0 := P.2.2.1
      have hg := P.2.2.2.1.1
      have z : tkT n B p = 0 := by
        have := (pTxt_g (n := n) (B := B) 0 p S1 N1 P.2.2.2.2.2.2.1.1 P.2.2.2.2.2.2.1.2 p0.1 p0.2).2 (by omega)
        rw [pTxt] at this
        exact this rfl
      have z2 : h1 65 35 = 0 := M.2.2.2.2.1.mpr z
      exact r_X9_text_38 sA ⟨by omega, fun c => absurd hg c, fun _ => ⟨by omega, fun _ => at59 p S1 N1 h1 fx P z (by rw [er, pTxt]), fun c => absurd z2 c⟩⟩
    | succ d ih =>
      intro p S1 N1 h1 fx hd P er
      obtain ⟨T, M, p0, ⟨hg, hp⟩, ra, rn, ⟨ok, oN⟩, Q1⟩ := id P
      rw [pTxt_s n B d p S1 N1] at er
      have t35 := M.2.2.2.1
      refine r_X9_text_38 sA ⟨by omega, fun c => absurd hg c, fun _ => ⟨by omega, fun c => ?_, fun c => (c_X9_readsLine sA P).mono ?_⟩⟩
      · have z := M.2.2.2.2.1.mp c
        rw [if_pos z] at er
        exact at59 p S1 N1 h1 fx P z er
      · have z : ¬ tkT n B p = 0 := fun k => c (M.2.2.2.2.1.mpr k)
        rw [if_neg z] at er
        rintro h2 ⟨l1, l2, l3, l4⟩
        have g := pLine_g (B := B) ok oN p0
        by_cases y : (pLine n B S1 N1 p).1 = 0
        · rw [if_neg (fun k => k y)] at er
          obtain ⟨m1, m2, m3⟩ := l3 y
          obtain ⟨s1, s2, s3, s4, s5⟩ := g.2 y
          exact ih _ _ _ h2 (fX_R fx l4) (by omega) ⟨fR_T l4 T, m1, by omega, ⟨by omega, by omega⟩, m2, m3, ⟨s1, s2⟩, fR_Q l4 Q1⟩ er
        · rw [if_pos y] at er
          have ea : pAll n B = pLine n B S1 N1 p := by rw [pAll, er, if_pos y]
          have b1 := g.1.1
          refine r_X9_text_38 sA ⟨by omega, fun _ => at59F h2 (fX_R fx l4) (by rw [ea]; exact y) (by rw [ea]; exact l1) (by rw [ea]; exact l2), fun c => absurd c (by omega)⟩
  refine e_X9_text (r_X9_text_0 sA ?_)
  rw [hn]
  intro h1 e1 h3 e3 h5 e5 h7 e7 h9 e9
  have f9 : ∀ b, b ≠ 65 → h9 b = h b := fun b hb => by rw [e9, st_row _ _ _ hb, e7, st_row _ _ _ hb, e5, st_row _ _ _ hb, e3, st_row _ _ _ hb, e1, st_row _ _ _ hb]
  have s9 : ∀ i, (i < 3 ∨ (5 < i ∧ i < 33) ∨ 34 < i) → h9 65 i = h 65 i := fun i hi => by rw [e9, st_slot _ _ _ _ (by omega), e7, st_slot _ _ _ _ (by omega), e5, st_slot _ _ _ _ (by omega), e3, st_slot _ _ _ _ (by omega), e1, st_slot _ _ _ _ (by omega)]
  have c33 : h9 65 33 = n := by rw [e9, st_slot _ _ _ _ (by decide), e7, st_slot _ _ _ _ (by decide), e5, st_slot _ _ _ _ (by decide), e3, st_slot _ _ _ _ (by decide), e1, st_same]
  have c3 : h9 65 3 = 0 := by rw [e9, st_slot _ _ _ _ (by decide), e7, st_slot _ _ _ _ (by decide), e5, st_slot _ _ _ _ (by decide), e3, st_same]
  have c4 : h9 65 4 = 0 := by rw [e9, st_slot _ _ _ _ (by decide), e7, st_slot _ _ _ _ (by decide), e5, st_same]
  have c5 : h9 65 5 = -1 := by rw [e9, st_slot _ _ _ _ (by decide), e7, st_same]
  have c34 : h9 65 34 = 0 := by rw [e9, st_same]
  refine (c_X9_firsts sA (Or.inr rfl)).mono ?_
  rintro h11 ⟨a1, a2, a3⟩
  have T11 : tpR h11 n B := ⟨n0, by rw [a3 65 (by decide)]; exact c33, fun i i0 i1 => by rw [a3 67 (by decide), f9 67 (by decide)]; exact hB i i0 i1, hR⟩
  refine (c_X9_takes (p := 0) sA T11 (by rw [a3 65 (by decide)]; exact c34) (by omega)).mono ?_
  rintro h12 ⟨M12, f12⟩
  refine key 600 0 S0 (fun _ => 0) h12 ⟨fun b b1 b2 b3 => by rw [f12.1 b b1, a3 b b2, f9 b b1], fun j hj => by rw [f12.1 66 (by decide), a2 j (by omega), f9 66 (by decide)], fun i hi => by rw [f12.2 i (by omega), a3 65 (by decide)]; exact s9 i (by omega), by rw [f12.2 3 (by decide), a3 65 (by decide)]; exact c3⟩ (by omega) ⟨tpR_f T11 f12, M12, by omega, ⟨by rw [f12.2 4 (by decide), a3 65 (by decide)]; exact c4, by rw [f12.2 5 (by decide), a3 65 (by decide)]; exact c5⟩, fun j j0 j1 => by rw [f12.1 66 (by decide)]; exact a1 j j0 j1, fun k k0 k1 => ?_, S0_ok, ?_⟩ rfl
  · have : S0 96 = 0 := by decide
    omega
  · unfold isQh
    rw [f12.1 (-2) (by decide), a3 (-2) (by decide), f9 (-2) (by decide)]
    exact Qh
end
