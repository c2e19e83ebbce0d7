/-! what a text tells can be -/
def okN (S N : Int → Int) : Prop := ∀ k, 0 ≤ k → k < S 96 → dg 6 (N k)
def g5 (n p : Int) (r : R5) : Prop := ((0 ≤ r.1 ∧ r.1 ≤ 5) ∧ (-1 ≤ r.2.1 ∧ r.2.1 ≤ n)) ∧ (r.1 = 0 → okS r.2.2.2.1 ∧ okN r.2.2.2.1 r.2.2.2.2 ∧ p ≤ r.2.2.1 ∧ r.2.2.1 ≤ n ∧ r.2.1 = -1)
section
variable {n p : Int} {B S N : Int → Int}
theorem pNum_g (lo hi : Int) (p0 : 0 ≤ p ∧ p ≤ n) : ((0 ≤ (pNum n B lo hi p).1 ∧ (pNum n B lo hi p).1 ≤ 5) ∧ (-1 ≤ (pNum n B lo hi p).2.1 ∧ (pNum n B lo hi p).2.1 ≤ n) ∧ (p ≤ (pNum n B lo hi p).2.2.1 ∧ (pNum n B lo hi p).2.2.1 ≤ n)) ∧ ((pNum n B lo hi p).1 = 0 → lo ≤ (pNum n B lo hi p).2.2.2 ∧ (pNum n B lo hi p).2.2.2 ≤ hi ∧ (pNum n B lo hi p).2.1 = -1) := by
  have a := tkQ_r (B := B) p0
  have b := tkE_r (B := B) p0
  rw [pNum]
  split
  · exact ⟨⟨by dsimp only; omega, by dsimp only; omega, by dsimp only; omega⟩, fun e => by dsimp only at e; omega⟩
  · split
    · exact ⟨⟨by dsimp only; omega, by dsimp only; omega, by dsimp only; omega⟩, fun e => by dsimp only at e; omega⟩
    · exact ⟨⟨by dsimp only; omega, by dsimp only; omega, by dsimp only; omega⟩, fun e => by dsimp only; omega⟩
theorem pKnd_g {c : Int} (c0 : 0 ≤ c) (p0 : 0 ≤ p ∧ p ≤ n) : ((0 ≤ (pKnd n B N c p).1 ∧ (pKnd n B N c p).1 ≤ 5) ∧ (-1 ≤ (pKnd n B N c p).2.1 ∧ (pKnd n B N c p).2.1 ≤ n) ∧ (p ≤ (pKnd n B N c p).2.2.1 ∧ (pKnd n B N c p).2.2.1 ≤ n)) ∧ ((pKnd n B N c p).1 = 0 → 0 ≤ (pKnd n B N c p).2.2.2 ∧ (pKnd n B N c p).2.2.2 < c ∧ (pKnd n B N c p).2.1 = -1) := by
  have a := tkQ_r (B := B) p0
  have b := tkE_r (B := B) p0
  have f := fnd_r (nm := N) (v := tkV n B p) c.toNat 0
  rw [pKnd]
  split
  · exact ⟨⟨by dsimp only; omega, by dsimp only; omega, by dsimp only; omega⟩, fun e => by dsimp only at e; omega⟩
  · split
    · exact ⟨⟨by dsimp only; omega, by dsimp only; omega, by dsimp only; omega⟩, fun e => by dsimp only at e; omega⟩
    · exact ⟨⟨by dsimp only; omega, by dsimp only; omega, by dsimp only; omega⟩, fun e => by dsimp only; omega⟩
theorem pOf_g {c : Int} (c0 : 0 ≤ c) (p0 : 0 ≤ p ∧ p ≤ n) : ((0 ≤ (pOf n B N c p).1 ∧ (pOf n B N c p).1 ≤ 5) ∧ (-1 ≤ (pOf n B N c p).2.1 ∧ (pOf n B N c p).2.1 ≤ n) ∧ (p ≤ (pOf n B N c p).2.2.1 ∧ (pOf n B N c p).2.2.1 ≤ n)) ∧ ((pOf n B N c p).1 = 0 → -1 ≤ (pOf n B N c p).2.2.2 ∧ (pOf n B N c p).2.2.2 < c ∧ (pOf n B N c p).2.1 = -1) := by
  rw [pOf]
  split
  · have a := tkQ_r (B := B) p0
    have b := tkE_r (B := B) p0
    obtain ⟨⟨x1, x2, x3⟩, x4⟩ := pKnd_g (B := B) (N := N) (p := tkE n B p) (n := n) c0 (by omega)
    exact ⟨⟨x1, x2, by omega⟩, fun e => by have := x4 e; omega⟩
  · exact ⟨⟨by dsimp only; omega, by dsimp only; omega, by dsimp only; omega⟩, fun e => by dsimp only; omega⟩
theorem pOpt_g (v : Int) {hi : Int} (h0 : 0 ≤ hi) (p0 : 0 ≤ p ∧ p ≤ n) : ((0 ≤ (pOpt n B v hi p).1 ∧ (pOpt n B v hi p).1 ≤ 5) ∧ (-1 ≤ (pOpt n B v hi p).2.1 ∧ (pOpt n B v hi p).2.1 ≤ n) ∧ (p ≤ (pOpt n B v hi p).2.2.1 ∧ (pOpt n B v hi p).2.2.1 ≤ n)) ∧ ((pOpt n B v hi p).1 = 0 → -1 ≤ (pOpt n B v hi p).2.2.2 ∧ (pOpt n B v hi p).2.2.2 ≤ hi ∧ (pOpt n B v hi p).2.1 = -1) := by
  rw [pOpt]
  split
  · have a := tkQ_r (B := B) p0
    have b := tkE_r (B := B) p0
    obtain ⟨⟨x1, x2, x3⟩, x4⟩ := pNum_g (B := B) (p := tkE n B p) (n := n) 0 hi (by omega)
    exact ⟨⟨x1, x2, by omega⟩, fun e => by have := x4 e; omega⟩
  · exact ⟨⟨by dsimp only; omega, by dsimp only; omega, by dsimp only; omega⟩, fun e => by dsimp only; omega⟩
theorem addK_o {a b c j : Int} (h0 : j ≠ 96) (h1 : j ≠ S 96) (h2 : j ≠ 8 + S 96) (h3 : j ≠ 16 + S 96) : addK S a b c j = S j := by
  rw [addK, up_o _ _ h0, up_o _ _ h3, up_o _ _ h2, up_o _ _ h1]
theorem addK_n (a b c : Int) : addK S a b c 96 = S 96 + 1 := by rw [addK, up_s]
theorem addK_1 {a b c : Int} (h : 0 ≤ S 96 ∧ S 96 < 8) : addK S a b c (S 96) = a ∧ addK S a b c (8 + S 96) = b ∧ addK S a b c (16 + S 96) = c := by
  refine ⟨?_, ?_, ?_⟩
  · rw [addK, up_o _ _ (by omega), up_o _ _ (by omega), up_o _ _ (by omega), up_s]
  · rw [addK, up_o _ _ (by omega), up_o _ _ (by omega), up_s]
  · rw [addK, up_o _ _ (by omega), up_s]
theorem addK_ok {a b c v : Int} (ok : okS S) (oN : okN S N) (h : S 96 < 8) (ha : -1 ≤ a ∧ a < S 96) (hb : -1 ≤ b ∧ b ≤ 99) (hc : -1 ≤ c ∧ c ≤ 9) (hv : dg 6 v) : okS (addK S a b c) ∧ okN (addK S a b c) (up N (S 96) v) := by
  obtain ⟨k1, k2, k3, k4, k5, k6, k7⟩ := ok
  have e := addK_1 (S := S) (a := a) (b := b) (c := c) ⟨k1.1, h⟩
  refine ⟨⟨?_, ?_, ?_, ?_, ?_, fun k h0 h1 => ?_, fun t h0 h1 => ?_⟩, fun k h0 h1 => ?_⟩
  · rw [addK_n]; omega
  · rw [addK_o (by omega) (by omega) (by omega) (by omega)]; exact k2
  · rw [addK_o (by omega) (by omega) (by omega) (by omega)]; exact k3
  · rw [addK_o (by omega) (by omega) (by omega) (by omega)]; exact k4
  · rw [addK_o (by omega) (by omega) (by omega) (by omega)]; exact k5
  · rw [addK_n] at h1
    by_cases q : k = S 96
    · rw [q, e.1, e.2.1, e.2.2]; exact ⟨ha, hb, hc⟩
    · rw [addK_o (by omega) (by omega) (by omega) (by omega), addK_o (by omega) (by omega) (by omega) (by omega), addK_o (by omega) (by omega) (by omega) (by omega)]
      exact k6 k h0 (by omega)
  · rw [addK_o (by omega) (by omega) (by omega) (by omega)] at h1
    rw [addK_n, addK_o (by omega) (by omega) (by omega) (by omega), addK_o (by omega) (by omega) (by omega) (by omega), addK_o (by omega) (by omega) (by omega) (by omega)]
    have := k7 t h0 h1
    omega
  · rw [addK_n] at h1
    by_cases q : k = S 96
    · rw [q, up_s]; exact hv
    · rw [up_o _ _ q]; exact oN k h0 (by omega)
theorem addT_o {a b c j : Int} (h0 : j ≠ 97) (h1 : j ≠ 24 + S 97) (h2 : j ≠ 48 + S 97) (h3 : j ≠ 72 + S 97) : addT S a b c j = S j := by
  rw [addT, up_o _ _ h0, up_o _ _ h3, up_o _ _ h2, up_o _ _ h1]
theorem addT_n (a b c : Int) : addT S a b c 97 = S 97 + 1 := by rw [addT, up_s]
theorem addT_1 {a b c : Int} (h : 0 ≤ S 97 ∧ S 97 < 24) : addT S a b c (24 + S 97) = a ∧ addT S a b c (48 + S 97) = b ∧ addT S a b c (72 + S 97) = c := by
  refine ⟨?_, ?_, ?_⟩
  · rw [addT, up_o _ _ (by omega), up_o _ _ (by omega), up_o _ _ (by omega), up_s]
  · rw [addT, up_o _ _ (by omega), up_o _ _ (by omega), up_s]
  · rw [addT, up_o _ _ (by omega), up_s]
theorem addT_ok {a b c : Int} (ok : okS S) (oN : okN S N) (h : S 97 < 24) (ha : 0 ≤ a ∧ a < S 96) (hb : 0 ≤ b ∧ b ≤ 60) (hc : 0 ≤ c ∧ c ≤ 300) : okS (addT S a b c) ∧ okN (addT S a b c) N := by
  obtain ⟨k1, k2, k3, k4, k5, k6, k7⟩ := ok
  have e := addT_1 (S := S) (a := a) (b := b) (c := c) ⟨k2.1, h⟩
  have e96 : addT S a b c 96 = S 96 := addT_o (by omega) (by omega) (by omega) (by omega)
  refine ⟨⟨?_, ?_, ?_, ?_, ?_, fun k h0 h1 => ?_, fun t h0 h1 => ?_⟩, fun k h0 h1 => ?_⟩
  · rw [e96]; exact k1
  · rw [addT_n]; omega
  · rw [addT_o (by omega) (by omega) (by omega) (by omega)]; exact k3
  · rw [addT_o (by omega) (by omega) (by omega) (by omega)]; exact k4
  · rw [addT_o (by omega) (by omega) (by omega) (by omega)]; exact k5
  · rw [e96] at h1
    rw [addT_o (by omega) (by omega) (by omega) (by omega), addT_o (by omega) (by omega) (by omega) (by omega), addT_o (by omega) (by omega) (by omega) (by omega)]
    exact k6 k h0 h1
  · rw [addT_n] at h1
    rw [e96]
    by_cases q : t = S 97
    · rw [q, e.1, e.2.1, e.2.2]; exact ⟨ha, hb, hc⟩
    · rw [addT_o (by omega) (by omega) (by omega) (by omega), addT_o (by omega) (by omega) (by omega) (by omega), addT_o (by omega) (by omega) (by omega) (by omega)]
      exact k7 t h0 (by omega)
  · rw [e96] at h1
    exact oN k h0 h1
theorem up_ok {i v : Int} (ok : okS S) (oN : okN S N) (h : (i = 98 ∧ 1 ≤ v ∧ v ≤ 300) ∨ (i = 99 ∧ 1 ≤ v ∧ v ≤ 99) ∨ (i = 100 ∧ 0 ≤ v ∧ v ≤ 20)) : okS (up S i v) ∧ okN (up S i v) N := by
  obtain ⟨k1, k2, k3, k4, k5, k6, k7⟩ := ok
  have o : ∀ j, j < 98 → up S i v j = S j := fun j hj => up_o _ _ (by omega)
  refine ⟨⟨?_, ?_, ?_, ?_, ?_, fun k h0 h1 => ?_, fun t h0 h1 => ?_⟩, fun k h0 h1 => ?_⟩
  · rw [o _ (by omega)]; exact k1
  · rw [o _ (by omega)]; exact k2
  · rw [up]; split
    · omega
    · exact k3
  · rw [up]; split
    · omega
    · exact k4
  · rw [up]; split
    · omega
    · exact k5
  · rw [o _ (by omega)] at h1
    rw [o _ (by omega), o _ (by omega), o _ (by omega)]
    exact k6 k h0 h1
  · rw [o _ (by omega)] at h1
    rw [o _ (by omega), o _ (by omega), o _ (by omega), o _ (by omega)]
    exact k7 t h0 h1
  · rw [o _ (by omega)] at h1
    exact oN k h0 h1
theorem pSet_g {i lo hi : Int} (ok : okS S) (oN : okN S N) (p0 : 0 ≤ p ∧ p ≤ n) (h : (i = 98 ∧ lo = 1 ∧ hi = 300) ∨ (i = 99 ∧ lo = 1 ∧ hi = 99) ∨ (i = 100 ∧ lo = 0 ∧ hi = 20)) : g5 n p (pSet n B S N i lo hi p) := by
  obtain ⟨⟨x1, x2, x3⟩, x4⟩ := pNum_g (B := B) (p := p) (n := n) lo hi p0
  refine ⟨⟨x1, x2⟩, fun e => ?_⟩
  have y := x4 e
  have := up_ok (i := i) (v := (pNum n B lo hi p).2.2.2) ok oN (by omega)
  exact ⟨this.1, this.2, x3.1, x3.2, y.2.2⟩
theorem g5_f {f pl q : Int} {S' N' : Int → Int} (h1 : 1 ≤ f ∧ f ≤ 5) (h2 : -1 ≤ pl ∧ pl ≤ n) : g5 n p (f, pl, q, S', N') := ⟨⟨by dsimp only; omega, h2⟩, fun e => by dsimp only at e; omega⟩
theorem g5_le {r : R5} {q : Int} (h : p ≤ q) (g : g5 n q r) : g5 n p r := ⟨g.1, fun e => by obtain ⟨a, b, c, d⟩ := g.2 e; exact ⟨a, b, by omega, d⟩⟩
theorem pTim2_g {k pe : Int} (ok : okS S) (oN : okN S N) (h : S 97 < 24) (ha : 0 ≤ k ∧ k < S 96) (hb : 0 ≤ pe ∧ pe ≤ 60) (p0 : 0 ≤ p ∧ p ≤ n) : g5 n p (pTim2 n B S N k pe p) := by
  obtain ⟨⟨x1, x2, x3⟩, x4⟩ := pNum_g (B := B) (p := p) (n := n) 0 300 p0
  refine ⟨⟨x1, x2⟩, fun e => ?_⟩
  have y := x4 e
  have := addT_ok (c := (pNum n B 0 300 p).2.2.2) ok oN h ha hb (by omega)
  exact ⟨this.1, this.2, x3.1, x3.2, y.2.2⟩
theorem pTim_g {e : Int} (ok : okS S) (oN : okN S N) (p0 : 0 ≤ p ∧ p ≤ n) : g5 n p (pTim n B S N e p) := by
  have a := tkQ_r (B := B) p0
  have b := tkE_r (B := B) p0
  obtain ⟨⟨x1, x2, x3⟩, x4⟩ := pKnd_g (B := B) (N := N) (p := tkE n B p) (n := n) (c := S 96) ok.1.1 (by omega)
  rw [pTim]
  split
  · exact g5_f (by omega) (by omega)
  · split
    · exact g5_f (by omega) x2
    · next c0 c1 =>
      have c2 : (pKnd n B N (S 96) (tkE n B p)).1 = 0 := by omega
      have y := x4 c2
      rw [pTim1]
      split
      · exact g5_le (by omega) (pTim2_g ok oN (by omega) ⟨y.1, y.2.1⟩ (by omega) (by omega))
      · obtain ⟨⟨z1, z2, z3⟩, z4⟩ := pNum_g (B := B) (p := (pKnd n B N (S 96) (tkE n B p)).2.2.1) (n := n) 1 60 (by omega)
        split
        · exact g5_f (by omega) z2
        · next c3 =>
          have y2 := z4 (by omega)
          exact g5_le (by omega) (pTim2_g ok oN (by omega) ⟨y.1, y.2.1⟩ (by omega) (by omega))
theorem pCls_g (ok : okS S) (oN : okN S N) (p0 : 0 ≤ p ∧ p ≤ n) : g5 n p (pCls n B S N p) := by
  have a := tkQ_r (B := B) p0
  have b := tkE_r (B := B) p0
  have a1 := tkQ_r (B := B) (p := tkE n B p) (n := n) (by omega)
  have b1 := tkE_r (B := B) (p := tkE n B p) (n := n) (by omega)
  rw [pCls]
  split
  · exact g5_f (by omega) (by omega)
  · next h8 =>
    split
    · exact g5_f (by omega) (by omega)
    · next hn =>
      have hd := (tk_word (Decidable.of_not_not hn).1).1
      split
      · exact g5_f (by omega) (by omega)
      · rw [pCls1]
        obtain ⟨⟨x1, x2, x3⟩, x4⟩ := pOf_g (B := B) (N := N) (p := tkE n B (tkE n B p)) (n := n) (c := S 96) ok.1.1 (by omega)
        split
        · exact g5_f (by omega) x2
        · next c1 =>
          have y := x4 (by omega)
          rw [pCls2]
          obtain ⟨⟨u1, u2, u3⟩, u4⟩ := pOpt_g (B := B) (p := (pOf n B N (S 96) (tkE n B (tkE n B p))).2.2.1) (n := n) 20317291 (hi := 99) (by omega) (by omega)
          split
          · exact g5_f (by omega) u2
          · next c2 =>
            have y2 := u4 (by omega)
            obtain ⟨⟨v1, v2, v3⟩, v4⟩ := pOpt_g (B := B) (p := (pOpt n B 20317291 99 (pOf n B N (S 96) (tkE n B (tkE n B p))).2.2.1).2.2.1) (n := n) 777297172 (hi := 9) (by omega) (by omega)
            refine ⟨⟨v1, v2⟩, fun e => ?_⟩
            have y3 := v4 e
            have := addK_ok (a := (pOf n B N (S 96) (tkE n B (tkE n B p))).2.2.2) (b := (pOpt n B 20317291 99 (pOf n B N (S 96) (tkE n B (tkE n B p))).2.2.1).2.2.2) (c := (pOpt n B 777297172 9 (pOpt n B 20317291 99 (pOf n B N (S 96) (tkE n B (tkE n B p))).2.2.1).2.2.1).2.2.2) ok oN (by omega) (by omega) (by omega) (by omega) hd
            exact ⟨this.1, this.2, Int.le_trans (show p ≤ (pOpt n B 20317291 99 (pOf n B N (S 96) (tkE n B (tkE n B p))).2.2.1).2.2.1 by omega) v3.1, v3.2, y3.2.2⟩
theorem pBody_g (ok : okS S) (oN : okN S N) (p0 : 0 ≤ p ∧ p ≤ n) : g5 n p (pBody n B S N p) := by
  have a := tkQ_r (B := B) p0
  have b := tkE_r (B := B) p0
  rw [pBody]
  split
  · exact pCls_g ok oN p0
  · split
    · exact pTim_g ok oN p0
    · split
      · exact pTim_g ok oN p0
      · split
        · exact g5_le (by omega) (pSet_g ok oN (by omega) (Or.inl ⟨rfl, rfl, rfl⟩))
        · split
          · exact g5_le (by omega) (pSet_g ok oN (by omega) (Or.inr (Or.inl ⟨rfl, rfl, rfl⟩)))
          · split
            · exact g5_le (by omega) (pSet_g ok oN (by omega) (Or.inr (Or.inr ⟨rfl, rfl, rfl⟩)))
            · exact g5_f (by omega) (by omega)
theorem pLine_g (ok : okS S) (oN : okN S N) (p0 : 0 ≤ p ∧ p ≤ n) : g5 n (p + 1) (pLine n B S N p) := by
  have g := pBody_g (B := B) ok oN p0
  rw [pLine]
  split
  · next c => exact ⟨g.1, fun e => absurd e c⟩
  · next c =>
    obtain ⟨s1, s2, s3, s4, s5⟩ := g.2 (by omega)
    have a := tkQ_r (B := B) (p := (pBody n B S N p).2.2.1) (n := n) (by omega)
    have b := tkE_r (B := B) (p := (pBody n B S N p).2.2.1) (n := n) (by omega)
    split
    · next c2 =>
      have l := tkE_lt (B := B) (p := (pBody n B S N p).2.2.1) (n := n) (by omega) (by omega)
      exact ⟨⟨by dsimp only; omega, by dsimp only; omega⟩, fun _ => ⟨s1, s2, by dsimp only; omega, b.2, rfl⟩⟩
    · exact g5_f (by omega) (by omega)
theorem S0_ok : okS S0 ∧ okN S0 (fun _ => 0) := by
  have e : ∀ j, j < 98 → S0 j = 0 := fun j hj => by rw [S0, if_neg (by omega), if_neg (by omega), if_neg (by omega)]
  refine ⟨⟨by rw [e _ (by decide)]; decide, by rw [e _ (by decide)]; decide, by decide, by decide, by decide, fun k h0 h1 => ?_, fun k h0 h1 => ?_⟩, fun k h0 h1 => dg_0 6⟩
  · rw [e 96 (by decide)] at h1; omega
  · rw [e 97 (by decide)] at h1; omega
theorem pTxt_g : ∀ (d : Nat) (p : Int) (S N : Int → Int), okS S → okN S N → 0 ≤ p → p ≤ n → g5 n p (pTxt n B d p S N) ∧ (n ≤ p + d → (pTxt n B d p S N).1 = 0 → tkT n B (pTxt n B d p S N).2.2.1 = 0) := by
  intro d
  induction d with
  | zero =>
    intro p S N ok oN p0 p1
    rw [pTxt]
    refine ⟨⟨⟨by dsimp only; omega, by dsimp only; omega⟩, fun _ => ⟨ok, oN, Int.le_refl _, p1, rfl⟩⟩, fun h _ => ?_⟩
    have q := tkQ_r (B := B) (p := p) (n := n) ⟨p0, p1⟩
    dsimp only
    rw [tkT]
    have : srt n B (tkQ n B p) = 0 := by rw [srt, if_pos (by omega)]
    rw [this, if_neg (by omega)]
  | succ d ih =>
    intro p S N ok oN p0 p1
    rw [pTxt]
    split
    · next c => exact ⟨⟨⟨by dsimp only; omega, by dsimp only; omega⟩, fun _ => ⟨ok, oN, Int.le_refl _, p1, rfl⟩⟩, fun _ _ => c⟩
    · have g := pLine_g (B := B) ok oN ⟨p0, p1⟩
      split
      · next c => exact ⟨⟨g.1, fun e => absurd e c⟩, fun _ e => absurd e c⟩
      · next c =>
        obtain ⟨s1, s2, s3, s4, s5⟩ := g.2 (by omega)
        have := ih _ _ _ s1 s2 (by omega) s4
        exact ⟨g5_le (by omega) this.1, fun h => this.2 (by omega)⟩
theorem pAll_g (n0 : 0 ≤ n ∧ n ≤ 600) : g5 n 0 (pAll n B) ∧ ((pAll n B).1 = 0 → inAll (pAll n B).2.2.2.1 ((pAll n B).2.2.2.1 97).toNat ≤ 200) := by
  have g := (pTxt_g (n := n) (B := B) 600 0 S0 (fun _ => 0) S0_ok.1 S0_ok.2 (by omega) n0.1).1
  rw [pAll]
  split
  · next c => exact ⟨g, fun e => absurd e c⟩
  · split
    · next c => exact ⟨g, fun _ => c⟩
    · exact ⟨g5_f (by omega) (by omega), fun e => by dsimp only at e; omega⟩
end
