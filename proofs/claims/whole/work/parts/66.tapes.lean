def rouA (S : Int → Int) (a x : Int) : Prop := (¬ rdE S ∧ x = -1) ∨ (rdE S ∧ ∃ (m : Nat) (p : Int), roundS S (hypC S) p m ∧ x = (if a = 0 then hypC S else if a = 1 then cyc S (hypC S) (S 97).toNat else if a = 2 then (m : Int) else if a = 3 then p else -1))
def ratA (S : Int → Int) (k x : Int) : Prop := (¬ rdE S ∧ x = -1) ∨ (rdE S ∧ ∃ (m : Nat) (p : Int), roundS S (hypC S) p m ∧ x = (if 0 ≤ k ∧ k < m then itn S k.toNat p % hypC S else -1))
section
variable {w : WS} {h : AH} {S g F L W At : Int → Int}
theorem rd_m (ok : okS S) (q : rdE S) {m : Nat} {p : Int} (r : roundS S (hypC S) p m) : (m : Int) ≤ hypC S ∧ 0 < hypC S ∧ hypC S = hyp S (S 97).toNat := by
  have h0 : 0 < hypC S := by have := r.1; omega
  obtain ⟨m', c1, c2, c3⟩ := isCnt_ex ok (hyp_perH ok q.1).2 r.1.1 h0
  refine ⟨by rw [isCnt_one r.2.1 c1]; exact c3, h0, ?_⟩
  unfold hypC
  rw [if_neg (by have := q.1; omega)]
theorem c_X8_round {a : Int} (sA : shA w) (I : invX w h S g F L W At) (ha : inR a) : CI mX8_round [vR 1, vI a] w h (fun x h' => rouA S a x ∧ invX w h' S g F L W At ∧ frX h h') := by
  refine e_X8_round (r_X8_round_0 sA ((c_X8_roundMade sA I).mono ?_))
  rintro v h1 ⟨rfl, I1, f1, r1, r2, r3⟩
  have ok := I1.2.2.2.2.2.2.2.1.1
  have hr := hypC_r S
  refine ⟨(fa_round52 sA).1, ?_⟩
  rcases r3 with ⟨q1, ⟨m, q2, q3, q4⟩, q5⟩ | ⟨q1, q2⟩
  · have hm := (rd_m ok q1 q4).1
    refine ⟨by omega, fun _ => ⟨ha, fun d => ⟨?_, I1, f1⟩, fun d => ⟨?_, I1, f1⟩, fun d => ⟨?_, I1, f1⟩, fun d => ⟨?_, I1, f1⟩, fun d => ⟨?_, I1, f1⟩⟩, fun c => absurd c (by omega)⟩
    · exact Or.inr ⟨q1, m, _, q4, by rw [if_pos d]; exact r1⟩
    · exact Or.inr ⟨q1, m, _, q4, by rw [if_neg (by omega), if_pos d]; exact r2⟩
    · exact Or.inr ⟨q1, m, _, q4, by rw [if_neg (by omega), if_neg (by omega), if_pos d]; exact q2⟩
    · exact Or.inr ⟨q1, m, _, q4, by rw [if_neg (by omega), if_neg (by omega), if_neg (by omega), if_pos d]⟩
    · exact Or.inr ⟨q1, m, _, q4, by rw [if_neg (by omega), if_neg (by omega), if_neg (by omega), if_neg (by omega)]⟩
  · exact ⟨by omega, fun c => absurd c (by omega), fun _ => ⟨Or.inl ⟨q1, rfl⟩, I1, f1⟩⟩
theorem c_X4_tickAtNo {r k : Int} (sr : shRound w r) (hk : inR k) (h4 : inR (h r 4)) (hn : ¬ (0 ≤ k ∧ k < h r 4)) : CI mX4_tickAt [vR r, vI k] w h (fun x h' => x = -1 ∧ h' = h) := by
  refine e_X4_tickAt (r_X4_tickAt_0 ⟨hk, fun c => ⟨rfl, rfl⟩, fun c => ⟨sr.1, h4, fun c2 => absurd ⟨by omega, by omega⟩ hn, fun c2 => ⟨rfl, rfl⟩⟩⟩)
theorem c_X8_roundAt {k : Int} (sA : shA w) (I : invX w h S g F L W At) (hk : inR k) : CI mX8_roundAt [vR 1, vI k] w h (fun x h' => ratA S k x ∧ invX w h' S g F L W At ∧ frX h h') := by
  refine e_X8_roundAt (r_X8_roundAt_0 sA ((c_X8_roundMade sA I).mono ?_))
  rintro v h1 ⟨rfl, I1, f1, r1, r2, r3⟩
  have ok := I1.2.2.2.2.2.2.2.1.1
  have hr := hypC_r S
  refine ⟨(fa_round52 sA).1, ?_⟩
  rcases r3 with ⟨q1, ⟨m, q2, q3, q4⟩, q5⟩ | ⟨q1, q2⟩
  · have hm := rd_m ok q1 q4
    by_cases c : 0 ≤ k ∧ k < m
    · have hp := hyp_perH ok q1.1
      rw [← hm.2.2] at hp
      refine (c_X4_tickAt (fa_round52 sA) ok hp.2 hp.1 r1 hr.2 q5 rfl q2 hm.1 q4.1.1 q4.1.2 c.1 c.2).eq ⟨Or.inr ⟨q1, m, _, q4, (if_pos c).symm⟩, I1, f1⟩
    · refine (c_X4_tickAtNo (fa_round52 sA) hk (by omega) (by rw [q2]; exact c)).eq ⟨Or.inr ⟨q1, m, _, q4, (if_neg c).symm⟩, I1, f1⟩
  · exact (c_X4_tickAtNo (fa_round52 sA) hk (by omega) (by omega)).eq ⟨Or.inl ⟨q1, rfl⟩, I1, f1⟩
/-- only the tape has changed -/
theorem inv_tape {h' : AH} (I : invX w h S g F L W At) (T : xT h') (f : ∀ b, b ≠ 3 → b ≠ 4 → h' b = h b) : invX w h' S g F L W At := by
  obtain ⟨iT, iS, iC, iO, iP, iR, iH, iN, iK⟩ := id I
  exact ⟨T, xS_f iS ⟨by rw [f 1 (by omega) (by omega)], by rw [f 1 (by omega) (by omega)]⟩ (fun b b1 b2 => f b (by omega) (by omega)), xC_f iC (fun b b1 b2 => f b (by omega) (by omega)), xO_f iO (fun b b1 => f b (by omega) (by omega)), xP_f iP (fun b b1 b2 => f b (by omega) (by omega)), xR_f iR (by rw [f 1 (by omega) (by omega)]) (fun b b1 b2 => f b (by omega) (by omega)), xH_f iH (fun b b1 b2 => f b (by omega) (by omega)), iN, iK⟩
/-- a tape with more bytes: n had, those behind by bt -/
def tpM (h h' : AH) (n m : Int) (bt : Int → Int) : Prop := h' 3 1 = m ∧ (∀ i, 0 ≤ i → i < n → h' 4 i = h 4 i) ∧ (∀ i, n ≤ i → i < m → h' 4 i = bt (i - n)) ∧ (∀ b, b ≠ 3 → b ≠ 4 → h' b = h b)
def byt (a j : Int) : Int := i2bZ (ushrZ a (24 - 8 * j))
def byt5 (a b c d e j : Int) : Int := if j < 4 then byt a j else if j < 8 then byt b (j - 4) else if j < 12 then byt c (j - 8) else if j < 16 then byt d (j - 12) else byt e (j - 16)
theorem add4_M (h : AH) {n a : Int} (n0 : 0 ≤ n) : tpM h (add4 h 3 n a) n (n + 4) (byt a) := by
  have e4 : (3 : Int) + 1 = 4 := rfl
  unfold add4
  rw [e4]
  refine ⟨st_same _ _ _ _, fun i i0 i1 => ?_, fun i i0 i1 => ?_, fun b b1 b2 => ?_⟩
  · rw [st_cell _ _ _ _ (by decide), st_slot _ _ _ _ (by omega), st_slot _ _ _ _ (by omega), st_slot _ _ _ _ (by omega), st_slot _ _ _ _ (by omega)]
  · rw [st_cell _ _ _ _ (by decide)]
    have : i = n ∨ i = n + 1 ∨ i = n + 2 ∨ i = n + 3 := by omega
    rcases this with q | q | q | q
    · rw [q, st_slot _ _ _ _ (by omega), st_slot _ _ _ _ (by omega), st_slot _ _ _ _ (by omega), st_same, show n - n = 0 by omega]; rfl
    · rw [q, st_slot _ _ _ _ (by omega), st_slot _ _ _ _ (by omega), st_same, show n + 1 - n = 1 by omega]; rfl
    · rw [q, st_slot _ _ _ _ (by omega), st_same, show n + 2 - n = 2 by omega]; rfl
    · rw [q, st_same, show n + 3 - n = 3 by omega]; rfl
  · rw [st_row _ _ _ b1, st_row _ _ _ b2, st_row _ _ _ b2, st_row _ _ _ b2, st_row _ _ _ b2]
theorem tpM_tr {h1 h2 : AH} {n m k : Int} {f f' : Int → Int} (n0 : 0 ≤ n ∧ n ≤ m) (mk : m ≤ k) (a : tpM h h1 n m f) (b : tpM h1 h2 m k f') : tpM h h2 n k (fun j => if j < m - n then f j else f' (j - (m - n))) := by
  obtain ⟨a1, a2, a3, a4⟩ := a
  obtain ⟨b1, b2, b3, b4⟩ := b
  refine ⟨b1, fun i i0 i1 => ?_, fun i i0 i1 => ?_, fun x x1 x2 => (b4 x x1 x2).trans (a4 x x1 x2)⟩
  · rw [b2 i i0 (by omega), a2 i i0 i1]
  · by_cases c : i < m
    · dsimp only
      rw [if_pos (by omega), b2 i (by omega) c, a3 i i0 c]
    · dsimp only
      rw [if_neg (by omega), b3 i (by omega) i1, show i - n - (m - n) = i - m by omega]
theorem tpM_cg {h1 : AH} {n m : Int} {f f' : Int → Int} (e : ∀ j, 0 ≤ j → j < m - n → f j = f' j) (a : tpM h h1 n m f) : tpM h h1 n m f' := ⟨a.1, a.2.1, fun i i0 i1 => by rw [a.2.2.1 i i0 i1]; exact e _ (by omega) (by omega), a.2.2.2⟩
theorem byt_r (a j : Int) : -128 ≤ byt a j ∧ byt a j ≤ 127 := i2bZ_in _
theorem c_X8_feed {a b c d e : Int} (sA : shA w) (I : invX w h S g F L W At) : CI mX8_feed [vR 1, vI a, vI b, vI c, vI d, vI e] w h (fun x h' => invX w h' S g F L W At ∧ ((h 3 1 + 20 ≤ 600 ∧ x = h 3 1 + 20 ∧ tpM h h' (h 3 1) (h 3 1 + 20) (byt5 a b c d e)) ∨ (¬ h 3 1 + 20 ≤ 600 ∧ x = -1 ∧ h' = h))) := by
  have iT := I.1
  have st := fa_tape sA
  refine e_X8_feed (r_X8_feed_0 sA ⟨by have := iT.1; omega, fun q => ?_, fun q => ⟨I, Or.inr ⟨q, rfl, rfl⟩⟩⟩)
  have n0 := iT.1
  refine (c_X6_addNumber (n := h 3 1) st rfl (by omega)).mono fun h2 e2 => ?_
  have m2 := add4_M h (n := h 3 1) (a := a) (by omega)
  rw [← e2] at m2
  refine (c_X6_addNumber (n := h 3 1 + 4) st m2.1 (by omega)).mono fun h3 e3 => ?_
  have m3 := add4_M h2 (n := h 3 1 + 4) (a := b) (by omega)
  rw [← e3] at m3
  refine (c_X6_addNumber (n := h 3 1 + 4 + 4) st m3.1 (by omega)).mono fun h4 e4 => ?_
  have m4 := add4_M h3 (n := h 3 1 + 4 + 4) (a := c) (by omega)
  rw [← e4] at m4
  refine (c_X6_addNumber (n := h 3 1 + 4 + 4 + 4) st m4.1 (by omega)).mono fun h5 e5 => ?_
  have m5 := add4_M h4 (n := h 3 1 + 4 + 4 + 4) (a := d) (by omega)
  rw [← e5] at m5
  refine (c_X6_addNumber (n := h 3 1 + 4 + 4 + 4 + 4) st m5.1 (by omega)).mono fun h6 e6 => ?_
  have m6 := add4_M h5 (n := h 3 1 + 4 + 4 + 4 + 4) (a := e) (by omega)
  rw [← e6] at m6
  have M := tpM_tr (by omega) (by omega) (tpM_tr (by omega) (by omega) (tpM_tr (by omega) (by omega) (tpM_tr (by omega) (by omega) m2 m3) m4) m5) m6
  have M2 : tpM h h6 (h 3 1) (h 3 1 + 20) (byt5 a b c d e) := by
    rw [show h 3 1 + 4 + 4 + 4 + 4 + 4 = h 3 1 + 20 by omega] at M
    refine tpM_cg (fun j j0 j1 => ?_) M
    unfold byt5
    by_cases c1 : j < 4
    · rw [if_pos (by omega), if_pos (by omega), if_pos (by omega), if_pos (by omega), if_pos c1]
    · by_cases c2 : j < 8
      · rw [if_pos (by omega), if_pos (by omega), if_pos (by omega), if_neg (by omega), if_neg c1, if_pos c2, show j - (h 3 1 + 4 - h 3 1) = j - 4 by omega]
      · by_cases c3 : j < 12
        · rw [if_pos (by omega), if_pos (by omega), if_neg (by omega), if_neg c1, if_neg c2, if_pos c3, show j - (h 3 1 + 4 + 4 - h 3 1) = j - 8 by omega]
        · by_cases c4 : j < 16
          · rw [if_pos (by omega), if_neg (by omega), if_neg c1, if_neg c2, if_neg c3, if_pos c4, show j - (h 3 1 + 4 + 4 + 4 - h 3 1) = j - 12 by omega]
          · rw [if_neg (by omega), if_neg c1, if_neg c2, if_neg c3, if_neg c4, show j - (h 3 1 + 4 + 4 + 4 + 4 - h 3 1) = j - 16 by omega]
  refine ⟨inv_tape I ⟨by rw [M2.1]; omega, fun i i0 i1 => ?_⟩ M2.2.2.2, Or.inl ⟨q, M2.1, M2⟩⟩
  rw [M2.1] at i1
  by_cases z : i < h 3 1
  · rw [M2.2.1 i i0 z]; exact iT.2 i i0 z
  · rw [M2.2.2.1 i (by omega) i1]
    unfold byt5
    repeat' split
    all_goals exact byt_r _ _
theorem c_X8_end {k : Int} (sA : shA w) (I : invX w h S g F L W At) (hk : inR k) : CI mX8_end [vR 1, vI k] w h (fun x h' => invX w h' S g F L W At ∧ (((0 ≤ k ∧ k ≤ h 3 1) ∧ x = k ∧ h' = st h 3 1 k) ∨ (¬ (0 ≤ k ∧ k ≤ h 3 1) ∧ x = -1 ∧ h' = h))) := by
  have iT := I.1
  have n0 := iT.1
  refine e_X8_end (r_X8_end_0 sA ⟨hk, fun c => ⟨I, Or.inr ⟨by omega, rfl, rfl⟩⟩, fun c => ⟨by omega, fun c2 => ?_, fun c2 => ⟨I, Or.inr ⟨by omega, rfl, rfl⟩⟩⟩⟩)
  refine (c_X6_cut (fa_tape sA).1 hk (by omega)).mono fun h3 e3 => ?_
  rw [show max 0 (min k (h 3 1)) = k by omega] at e3
  refine ⟨inv_tape I ⟨by rw [e3, st_same]; omega, fun i i0 i1 => ?_⟩ (fun b b1 b2 => by rw [e3, st_row _ _ _ b1]), Or.inl ⟨by omega, rfl, e3⟩⟩
  rw [e3, st_same] at i1
  rw [e3, st_cell _ _ _ _ (by decide)]
  exact iT.2 i i0 (by omega)
end
