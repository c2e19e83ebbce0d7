section
variable {w : WS} {h : AH} {t : Int}
theorem c_X6_advance {n p : Int} {B : Int → Int} (s : shTape w t) (hn : h t 1 = n) (n0 : 0 ≤ n ∧ n ≤ 600) (hp : h t 3 = p) (p0 : 0 ≤ p ∧ p ≤ n) (eB : h (t + 1) = B) (hB : ∀ i, 0 ≤ i → i < n → -128 ≤ B i ∧ B i ≤ 127) : CV mX6_advance [vR t] w h (fun h' => isTk h' t n B p ∧ ∀ b, b ≠ t → h' b = h b) := by
  obtain ⟨s0, f0, t1, l1⟩ := id s
  have blk : ∀ (q : Int) (h1 : AH), 0 ≤ q → q ≤ n → tkQ n B p = q → h1 t 1 = n → h1 t 3 = q → (∀ b, b ≠ t → h1 b = h b) → ∀ h4, h4 = st h1 t 2 (h1 t 3) → CI mX6_sortAt [vR t, vI (h4 t 2)] w h4 (fun x7 h6 => ∀ h8, h8 = st h6 t 4 x7 → ∀ h10, h10 = st h8 t 5 0 → (inR (h10 t 4) ∧ ((h10 t 4 = 3 → XV mX6_advance 77 [some (vR t), none] [] w h10 (fun h' => isTk h' t n B p ∧ ∀ b, b ≠ t → h' b = h b)) ∧ (¬ h10 t 4 = 3 → ((¬ h10 t 4 = 4 → ((h10 t 4 = 0 → isTk h10 t n B p ∧ ∀ b, b ≠ t → h10 b = h b) ∧ (¬ h10 t 4 = 0 → ∀ h13, h13 = st h10 t 3 (h10 t 3 + 1) → isTk h13 t n B p ∧ ∀ b, b ≠ t → h13 b = h b))) ∧ (h10 t 4 = 4 → XV mX6_advance 77 [some (vR t), none] [] w h10 (fun h' => isTk h' t n B p ∧ ∀ b, b ≠ t → h' b = h b))))))) := by
    intro q h1 q0 q1 eq e1 e3 hf h4 w4
    have r4 : h4 t 2 = q := by rw [w4, st_same]; exact e3
    rw [r4]
    have eB4 : h4 (t + 1) = B := by rw [w4, st_row _ _ _ (by omega), hf _ (by omega)]; exact eB
    refine (c_X6_sortAt s (by rw [w4, st_slot _ _ _ _ (by decide)]; exact e1) n0 (by omega) (by rw [eB4]; exact hB)).eq ?_
    rw [eB4]
    intro h8 w8 h10 w10
    have a1 : h10 t 1 = n := by rw [w10, st_slot _ _ _ _ (by decide), w8, st_slot _ _ _ _ (by decide), w4, st_slot _ _ _ _ (by decide)]; exact e1
    have a2 : h10 t 2 = q := by rw [w10, st_slot _ _ _ _ (by decide), w8, st_slot _ _ _ _ (by decide)]; exact r4
    have a3 : h10 t 3 = q := by rw [w10, st_slot _ _ _ _ (by decide), w8, st_slot _ _ _ _ (by decide), w4, st_slot _ _ _ _ (by decide)]; exact e3
    have a4 : h10 t 4 = srt n B q := by rw [w10, st_slot _ _ _ _ (by decide), w8, st_same]
    have a5 : h10 t 5 = 0 := by rw [w10, st_same]
    have af : ∀ b, b ≠ t → h10 b = h b := fun b hb => by rw [w10, st_row _ _ _ hb, w8, st_row _ _ _ hb, w4, st_row _ _ _ hb]; exact hf b hb
    have sr := srt_r n B q
    have run : ∀ c m z : Int, srt n B q = c → ((c = 3 ∧ m = 32 ∧ z = 96) ∨ (c = 4 ∧ m = 10 ∧ z = 48)) → XV mX6_advance 77 [some (vR t), none] [] w h10 (fun h' => isTk h' t n B p ∧ ∀ b, b ≠ t → h' b = h b) := by
      intro c m z ec hc
      have eE : tkE n B p = rnS n B c (n - q).toNat q := by rw [tkE, eq, if_pos (by omega), ec]
      refine adv_run (E := tkE n B p) s n0 hB hc q0 h (fun h2 b1 b2 b3 b4 b5 b6 => ⟨⟨b1, by rw [eq]; exact b2, b3, ?_, ?_⟩, b6⟩) eB (n - q).toNat 0 h10 (by omega) a1 a2 (by rw [a3]; simp) (by rw [a4, ec]) a5 (by rw [eE]; congr 1; simp) af
      · rw [b4, tkT, eq, ec]
      · rw [b5, tkV, eq, ec]
        rcases hc with ⟨rfl, rfl, rfl⟩ | ⟨rfl, rfl, rfl⟩
        · rw [if_pos rfl]
        · rw [if_neg (by decide), if_pos rfl]
    rw [a4, a3]
    refine ⟨by omega, fun c3 => run 3 32 96 c3 (Or.inl ⟨rfl, rfl, rfl⟩), fun c3 => ⟨fun c4 => ⟨fun c0 => ⟨⟨a1, by rw [eq]; exact a2, ?_, ?_, ?_⟩, af⟩, fun c0 h13 w13 => ⟨⟨by rw [w13, st_slot _ _ _ _ (by decide)]; exact a1, by rw [w13, st_slot _ _ _ _ (by decide), eq]; exact a2, ?_, ?_, ?_⟩, fun b hb => by rw [w13, st_row _ _ _ hb]; exact af b hb⟩⟩, fun c4 => run 4 10 48 c4 (Or.inr ⟨rfl, rfl, rfl⟩)⟩⟩
    · rw [a3, tkE, eq, if_neg (by omega), if_pos c0]
    · rw [a4, tkT, eq, if_neg (by omega)]
    · rw [a5, tkV, eq, if_neg c3, if_neg c4]
    · rw [w13, st_same, tkE, eq, if_neg (by omega), if_neg c0]
    · rw [w13, st_slot _ _ _ _ (by decide), a4, tkT, eq, if_neg (by omega)]
    · rw [w13, st_slot _ _ _ _ (by decide), a5, tkV, eq, if_neg c3, if_neg c4]
  have key : ∀ (d : Nat) (q : Int) (h1 : AH), q + d = n → 0 ≤ q → skp n B d q = tkQ n B p → h1 t 1 = n → h1 t 3 = q → (∀ b, b ≠ t → h1 b = h b) → XV mX6_advance 0 [some (vR t), none] [] w h1 (fun h' => isTk h' t n B p ∧ ∀ b, b ≠ t → h' b = h b) := by
    intro d
    induction d with
    | zero =>
      intro q h1 hq q0 es e1 e3 hf
      refine r_X6_advance_0 ?_
      have b := blk q h1 q0 (by omega) es.symm e1 e3 hf
      rw [e1]
      exact ⟨s0, by omega, by omega, fun _ => b, fun c => absurd c (by omega)⟩
    | succ d ih =>
      intro q h1 hq q0 es e1 e3 hf
      refine r_X6_advance_0 ?_
      have eB1 : h1 (t + 1) = B := by rw [hf (t + 1) (by omega)]; exact eB
      have sr := srt_r n B q
      rw [e1]
      refine ⟨s0, by omega, by omega, fun c => absurd c (by omega), fun c => ?_⟩
      refine (c_X6_sortAt s e1 n0 (by omega) (by rw [eB1]; exact hB)).eq ?_
      rw [eB1, e3]
      rw [skp] at es
      refine ⟨by omega, fun c2 => ?_, fun c2 h41 w41 => ?_⟩
      · rw [if_neg c2] at es
        have b := blk q h1 q0 (by omega) es.symm e1 e3 hf
        rw [e3] at b
        exact b
      · rw [if_pos c2] at es
        exact ih (q + 1) h41 (by omega) (by omega) es (by rw [w41, st_slot _ _ _ _ (by decide)]; exact e1) (by rw [w41, st_same]) (fun b hb => by rw [w41, st_row _ _ _ hb]; exact hf b hb)
  exact e_X6_advance (key (n - p).toNat p h (by omega) p0.1 rfl hn hp (fun _ _ => rfl))
theorem tkQ_r {n p : Int} {B : Int → Int} (p0 : 0 ≤ p ∧ p ≤ n) : p ≤ tkQ n B p ∧ tkQ n B p ≤ n := by
  have := skp_r n B (n - p).toNat p
  rw [tkQ]; omega
theorem tkE_r {n p : Int} {B : Int → Int} (p0 : 0 ≤ p ∧ p ≤ n) : tkQ n B p ≤ tkE n B p ∧ tkE n B p ≤ n := by
  have a := tkQ_r (B := B) p0
  have b := rnS_r n B (srt n B (tkQ n B p)) (n - tkQ n B p).toNat (tkQ n B p)
  rw [tkE]
  split
  · omega
  · split
    · omega
    · next c => 
      rw [srt] at c
      split at c
      · exact absurd rfl c
      · omega
/-- a token that is not the end takes a byte at least -/
theorem tkE_lt {n p : Int} {B : Int → Int} (p0 : 0 ≤ p ∧ p ≤ n) (ht : tkT n B p ≠ 0) : p < tkE n B p := by
  have a := tkQ_r (B := B) p0
  have hs : srt n B (tkQ n B p) ≠ 0 := by
    intro e
    rw [tkT, e, if_neg (by omega)] at ht
    exact ht rfl
  have hq : tkQ n B p < n := by
    rw [srt] at hs
    split at hs
    · exact absurd rfl hs
    · omega
  rw [tkE]
  split
  · obtain ⟨d, hd⟩ : ∃ d, (n - tkQ n B p).toNat = d + 1 := ⟨(n - tkQ n B p).toNat - 1, by omega⟩
    rw [hd, rnS, if_pos rfl]
    have := rnS_r n B (srt n B (tkQ n B p)) d (tkQ n B p + 1)
    omega
  · first | omega | (rw [if_neg hs]; omega)
theorem tk_end {n p : Int} {B : Int → Int} (p0 : 0 ≤ p ∧ p ≤ n) (ht : tkT n B p = 0) : tkQ n B p = n := by
  have a := tkQ_r (B := B) p0
  rw [tkT] at ht
  split at ht
  · omega
  · have := srC_r (B (tkQ n B p))
    rw [srt] at ht
    split at ht <;> omega
theorem tkT_r (n p : Int) (B : Int → Int) : 0 ≤ tkT n B p ∧ tkT n B p ≤ 5 := by
  have := srt_r n B (tkQ n B p)
  rw [tkT]; split <;> omega
theorem c_X6_rewind {n : Int} {B : Int → Int} (s : shTape w t) (hn : h t 1 = n) (n0 : 0 ≤ n ∧ n ≤ 600) (eB : h (t + 1) = B) (hB : ∀ i, 0 ≤ i → i < n → -128 ≤ B i ∧ B i ≤ 127) : CV mX6_rewind [vR t] w h (fun h' => isTk h' t n B 0 ∧ ∀ b, b ≠ t → h' b = h b) := by
  refine e_X6_rewind (r_X6_rewind_0 ⟨s.1, fun h2 w2 => ?_⟩)
  refine (c_X6_advance (p := 0) s (by rw [w2, st_slot _ _ _ _ (by decide)]; exact hn) n0 (by rw [w2, st_same]) (by omega) (by rw [w2, st_row _ _ _ (by omega)]; exact eB) hB).mono fun h' q => ⟨q.1, fun b hb => ?_⟩
  rw [q.2 b hb, w2, st_row _ _ _ hb]
theorem c_X6_size (s0 : wt w t = 16) : CI mX6_size [vR t] w h (fun x h' => x = h t 1 ∧ h' = h) := e_X6_size (r_X6_size_0 ⟨s0, rfl, rfl⟩)
theorem c_X6_type (s0 : wt w t = 16) : CI mX6_type [vR t] w h (fun x h' => x = h t 4 ∧ h' = h) := e_X6_type (r_X6_type_0 ⟨s0, rfl, rfl⟩)
theorem c_X6_value (s0 : wt w t = 16) : CI mX6_value [vR t] w h (fun x h' => x = h t 5 ∧ h' = h) := e_X6_value (r_X6_value_0 ⟨s0, rfl, rfl⟩)
theorem c_X6_start (s0 : wt w t = 16) : CI mX6_start [vR t] w h (fun x h' => x = h t 2 ∧ h' = h) := e_X6_start (r_X6_start_0 ⟨s0, rfl, rfl⟩)
theorem c_X6_cut {k : Int} (s0 : wt w t = 16) (hk : inR k) (hn : inR (h t 1)) : CV mX6_cut [vR t, vI k] w h (fun h' => h' = st h t 1 (max 0 (min k (h t 1)))) := e_X6_cut (r_X6_cut_0 ⟨s0, hk, hn, by omega, fun _ e => e⟩)
theorem c_X6_reads {k : Int} (s0 : wt w t = 16) (hk : inR k) (ht : inR (h t 4)) (hv : h t 4 = 3 → inR (h t 5)) : CI mX6_reads [vR t, vI k] w h (fun x h' => x = (if h t 4 = 3 ∧ h t 5 = k then 1 else 0) ∧ h' = h) := by
  refine e_X6_reads (r_X6_reads_0 ⟨s0, ht, fun c => ⟨?_, rfl⟩, fun c => ⟨hv c, hk, fun c2 => ⟨?_, rfl⟩, fun c2 => ⟨?_, rfl⟩⟩⟩)
  · rw [if_neg (by omega)]
  · rw [if_neg (by omega)]
  · rw [if_pos ⟨c, c2⟩]
/-- four bytes of a number come behind a tape of n -/
def add4 (h : AH) (t n a : Int) : AH := st (st (st (st (st h (t + 1) n (i2bZ (ushrZ a 24))) (t + 1) (n + 1) (i2bZ (ushrZ a 16))) (t + 1) (n + 2) (i2bZ (ushrZ a 8))) (t + 1) (n + 3) (i2bZ (ushrZ a 0))) t 1 (n + 4)
theorem c_X6_addNumber {n a : Int} (s : shTape w t) (hn : h t 1 = n) (n0 : 0 ≤ n ∧ n + 4 ≤ 600) : CV mX6_addNumber [vR t, vI a] w h (fun h' => h' = add4 h t n a) := by
  obtain ⟨s0, f0, t1, l1⟩ := id s
  refine e_X6_addNumber (r_X6_addNumber_0 ?_)
  have one : ∀ (k x : Int) (h1 : AH) (Q : AH → Prop), inR x → ¬ x < 0 → h1 t 1 = k → 0 ≤ k → k < 600 → XV mX6_addNumber 3 [some (vR t), some (vI a), some (vI (x + (-8)))] [] w (st (st h1 (t + 1) k (i2bZ (ushrZ a x))) t 1 (k + 1)) Q → XV mX6_addNumber 3 [some (vR t), some (vI a), some (vI x)] [] w h1 Q := by
    intro k x h1 Q hx hx0 e k0 k1 K
    refine r_X6_addNumber_3 ?_
    rw [f0, l1, e]
    refine ⟨hx, fun c => absurd c hx0, fun _ => ⟨s0, t1, by omega, by omega, fun c => absurd c (by omega), fun c => ⟨by omega, by omega, fun h8 w8 h10 w10 => ?_⟩⟩⟩
    have e8 : h8 t 1 = k := by rw [w8, st_cell _ _ _ _ (by omega)]; exact e
    rw [e8, w8] at w10
    rw [w10]
    exact K
  refine one n 24 h _ (by decide) (by decide) hn (by omega) (by omega) ?_
  refine one (n + 1) 16 _ _ (by decide) (by decide) (st_same _ _ _ _) (by omega) (by omega) ?_
  refine one (n + 1 + 1) 8 _ _ (by decide) (by decide) (st_same _ _ _ _) (by omega) (by omega) ?_
  refine one (n + 1 + 1 + 1) 0 _ _ (by decide) (by decide) (st_same _ _ _ _) (by omega) (by omega) ?_
  refine r_X6_addNumber_3 ⟨by decide, fun _ => ?_, fun c => absurd (by decide) c⟩
  have sw : ∀ (h1 : AH) (i v x : Int), st (st h1 t 1 x) (t + 1) i v = st (st h1 (t + 1) i v) t 1 x := by
    intro h1 i v x
    funext b j
    simp only [st]
    by_cases c1 : b = t + 1 ∧ j = i
    · rw [if_pos c1, if_neg (by omega), if_pos c1]
    · rw [if_neg c1]
      by_cases c2 : b = t ∧ j = 1
      · rw [if_pos c2, if_pos c2]
      · rw [if_neg c2, if_neg c2, if_neg c1]
  have ww : ∀ (h1 : AH) (x y : Int), st (st h1 t 1 x) t 1 y = st h1 t 1 y := by
    intro h1 x y
    funext b j
    simp only [st]
    by_cases c2 : b = t ∧ j = 1
    · rw [if_pos c2, if_pos c2]
    · rw [if_neg c2, if_neg c2, if_neg c2]
  simp only [sw, ww]
  rw [add4, show n + 1 + 1 + 1 + 1 = n + 4 by omega, show n + 1 + 1 + 1 = n + 3 by omega, show n + 1 + 1 = n + 2 by omega]
end
