theorem pTxt_s (n : Int) (B : Int → Int) (d : Nat) (p : Int) (S N : Int → Int) : pTxt n B (d + 1) p S N = if tkT n B p = 0 then (0, -1, p, S, N) else if (pLine n B S N p).1 ≠ 0 then pLine n B S N p else pTxt n B d (pLine n B S N p).2.2.1 (pLine n B S N p).2.2.2.1 (pLine n B S N p).2.2.2.2 := rfl
section
variable {w : WS} {h : AH} {n p o : Int} {B S N : Int → Int}
theorem c_X3_line (sA : shA w) (P : lnP h o n B S N p) : CI mX3_line [vR 2, vR o] w h (fun x h' => x = (if (pLine n B S N p).1 = 0 then 1 else 0) ∧ lnR h h' o n B (pLine n B S N p)) := by
  obtain ⟨ho, tp, tk, p0, ⟨hf, hp⟩, hS, hN, ok, oN⟩ := id P
  have gb := pBody_g (B := B) ok oN p0
  obtain ⟨r1, r2, r3⟩ := isTk_r tk
  obtain ⟨k1, k2, k3, k4, k5⟩ := id tk
  have at129 : ∀ (x : Int) (h2 : AH), x = (if (pBody n B S N p).1 = 0 then 1 else 0) → lnR h h2 o n B (pBody n B S N p) → XI mX3_line 129 [some (vR 2), none, none, some (vI x)] [] w h2 (fun x h' => x = (if (pLine n B S N p).1 = 0 then 1 else 0) ∧ lnR h h' o n B (pLine n B S N p)) := by
    intro x h2 ex R
    refine r_X3_line_129 sA ?_
    by_cases z : (pBody n B S N p).1 = 0
    · rw [if_pos z] at ex
      obtain ⟨l1, l2, l3, l4, l5⟩ := R
      obtain ⟨m1, m2, m3⟩ := l3 z
      obtain ⟨s1, s2, s3, s4, s5⟩ := gb.2 z
      refine ⟨by omega, fun c => absurd c (by omega), fun _ => (c_X3_closes sA (tpO_f tp (l4 4 (by decide) (by decide) (by omega))) m1 (by omega)).mono ?_⟩
      intro x3 h3 q
      rcases q with ⟨q1, q2, q3, q4⟩ | ⟨q1, q2, q3, q4, q5⟩
      · have er : pLine n B S N p = (0, -1, tkE n B (pBody n B S N p).2.2.1, (pBody n B S N p).2.2.2) := by rw [pLine, if_neg (fun k => k z), if_pos q2]
        rw [er]
        refine ⟨by omega, fun c => absurd c (by omega), fun _ => ⟨(if_pos rfl).symm, by rw [q4 2 (by decide), l1, z], by rw [q4 2 (by decide), l2, s5], fun _ => ⟨q3, isS_frame m2 (fun b b1 b2 => q4 b (by omega)), fun k k0 k1 => by rw [q4 (o + 1) (by omega)]; exact m3 k k0 k1⟩, fun b b1 b2 b3 => (q4 b b2).trans (l4 b b1 b2 b3), q3.1⟩⟩
      · have er : pLine n B S N p = (1, tkQ n B (pBody n B S N p).2.2.1, p, S, N) := by rw [pLine, if_neg (fun k => k z), if_neg q2]
        rw [er]
        refine ⟨by omega, fun _ => ⟨(if_neg (show ¬ (1 : Int) = 0 by decide)).symm, q3, q4, fun e => absurd e (show ¬ (1 : Int) = 0 by decide), fun b b1 b2 b3 => (q5 b b1).trans (l4 b b1 b2 b3), by rw [q5 3 (by decide)]; exact l5⟩, fun c => absurd q1 c⟩
    · rw [if_neg z] at ex
      have er : pLine n B S N p = pBody n B S N p := by rw [pLine, if_pos z]
      rw [er]
      exact ⟨by omega, fun _ => ⟨(if_neg z).symm, R⟩, fun c => absurd ex c⟩
  have at23 : ∀ (v : Int), inR v → ((tkT n B p = 3 ∧ v = tkV n B p) ∨ (tkT n B p ≠ 3 ∧ v = -1)) → XI mX3_line 23 [some (vR 2), some (vR o), some (vI v), none] [] w h (fun x h' => x = (if (pLine n B S N p).1 = 0 then 1 else 0) ∧ lnR h h' o n B (pLine n B S N p)) := by
    intro v hv cv
    refine r_X3_line_23 sA ⟨hv, fun c => ?_, fun c => ?_, fun c => ?_, fun c => ?_, fun c h14 e14 => ?_⟩
    · have er : pBody n B S N p = pTim n B S N 0 p := by rw [pBody, if_neg (by omega), if_pos (by omega)]
      refine (c_X3_timerLine sA P (Or.inl rfl)).mono ?_
      rintro x h2 ⟨u1, u2⟩
      exact at129 x h2 (by rw [er]; exact u1) (by rw [er]; exact u2)
    · have hh : ∃ i lo hi, ((v = 408362632 ∧ i = 98 ∧ lo = 1 ∧ hi = 300) ∨ (v = 17376357 ∧ i = 99 ∧ lo = 1 ∧ hi = 99) ∨ (v = 643129 ∧ i = 100 ∧ lo = 0 ∧ hi = (20 : Int))) ∧ pBody n B S N p = pSet n B S N i lo hi (tkE n B p) := by
        rcases c with c | c | c
        · exact ⟨100, 0, 20, by omega, by rw [pBody, if_neg (by omega), if_neg (by omega), if_neg (by omega), if_neg (by omega), if_neg (by omega), if_pos (by omega)]⟩
        · exact ⟨99, 1, 99, by omega, by rw [pBody, if_neg (by omega), if_neg (by omega), if_neg (by omega), if_neg (by omega), if_pos (by omega)]⟩
        · exact ⟨98, 1, 300, by omega, by rw [pBody, if_neg (by omega), if_neg (by omega), if_neg (by omega), if_pos (by omega)]⟩
      obtain ⟨i, lo, hi, ha, er⟩ := hh
      refine (c_X3_settingLine sA P ha).mono ?_
      rintro x h2 ⟨u1, u2⟩
      exact at129 x h2 (by rw [er]; exact u1) (by rw [er]; exact u2)
    · have er : pBody n B S N p = pCls n B S N p := by rw [pBody, if_pos (by omega)]
      refine (c_X3_classLine sA P).mono ?_
      rintro x h2 ⟨u1, u2⟩
      exact at129 x h2 (by rw [er]; exact u1) (by rw [er]; exact u2)
    · have er : pBody n B S N p = pTim n B S N 1 p := by rw [pBody, if_neg (by omega), if_neg (by omega), if_pos (by omega)]
      refine (c_X3_timerLine sA P (Or.inr rfl)).mono ?_
      rintro x h2 ⟨u1, u2⟩
      exact at129 x h2 (by rw [er]; exact u1) (by rw [er]; exact u2)
    · have er : pBody n B S N p = (1, tkQ n B p, p, S, N) := by rw [pBody, if_neg (by omega), if_neg (by omega), if_neg (by omega), if_neg (by omega), if_neg (by omega), if_neg (by omega)]
      have er2 : pLine n B S N p = (1, tkQ n B p, p, S, N) := by rw [pLine, er, if_pos (show (1 : Int) ≠ 0 by decide)]
      have f := failH_f h 1
      rw [er2, e14]
      exact ⟨(if_neg (show ¬ (1 : Int) = 0 by decide)).symm, lnR_f (f := 1) (by decide) rfl rfl f.1 (by rw [f.2.1]; exact k2) (fun b b1 _ => f.2.2 b b1) (by rw [f.2.2 3 (by decide)]; exact k1)⟩
  refine e_X3_line (r_X3_line_0 sA ⟨r1, fun c => at23 (-1) (by decide) (Or.inr ⟨by omega, rfl⟩), fun c => ?_⟩)
  exact at23 _ (r2 c) (Or.inl ⟨by omega, k5⟩)
/-- what a text leaves -/
def txR (h h' : AH) (o n : Int) (r : R5) : Prop := h' 2 1 = r.1 ∧ h' 2 2 = r.2.1 ∧ (r.1 = 0 → isS h' o r.2.2.2.1) ∧ (∀ b, b ≠ 2 → b ≠ 3 → (b < o ∨ o + 7 < b) → h' b = h b) ∧ h' 3 1 = n
theorem c_X3_read (sA : shA w) (ho : o = 5 ∨ o = 13) (tp : tpO h n B) (hn : h 3 1 = n) : CI mX3_read [vR 2, vR o] w h (fun x h' => x = (if (pAll n B).1 = 0 then 1 else 0) ∧ txR h h' o n (pAll n B)) := by
  have n0 := tp.1
  -- at the end of all lines
  have fin : ∀ (p : Int) (S N : Int → Int) (h1 : AH), lnP h1 o n B S N p → (∀ b, b ≠ 2 → b ≠ 3 → (b < o ∨ o + 7 < b) → h1 b = h b) → tkT n B p = 0 → pTxt n B 600 0 S0 (fun _ => 0) = (0, -1, p, S, N) → (wt w o = 15 ∧ CI mX5_callsInAll [vR o] w h1 (fun x4 h3 => (inR x4 ∧ ((x4 ≤ 200 → (1 : Int) = (if (pAll n B).1 = 0 then 1 else 0) ∧ txR h h3 o n (pAll n B)) ∧ (¬ x4 ≤ 200 → (∀ h6, h6 = failH h3 (5 : Int) → (((0 : Int) = 0 → (0 : Int) = (if (pAll n B).1 = 0 then 1 else 0) ∧ txR h h6 o n (pAll n B)) ∧ (¬ (0 : Int) = 0 → (1 : Int) = (if (pAll n B).1 = 0 then 1 else 0) ∧ txR h h6 o n (pAll n B))))))))) := by
    intro p S N h1 P hfr ht er
    obtain ⟨-, tp1, tk, p0, ⟨hf, hp⟩, hS, hN, ok, oN⟩ := P
    refine ⟨(fa_set sA ho).1, (c_X5_callsInAll (fa_set sA ho) hS ok).eq ?_⟩
    have ir : inR (inAll S (S 97).toNat) := by
      have := inAll_r ok (S 97).toNat (by have := ok.2.1; omega)
      have := ok.2.1
      omega
    refine ⟨ir, fun c => ?_, fun c h6 e6 => ⟨fun _ => ?_, fun c2 => absurd rfl c2⟩⟩
    · have ea : pAll n B = (0, -1, p, S, N) := by rw [pAll, er, if_neg (fun k => k rfl), if_pos c]
      rw [ea]
      exact ⟨(if_pos rfl).symm, hf, hp, fun _ => hS, hfr, tk.1⟩
    · have ea : pAll n B = (5, n, 0, S0, fun _ => 0) := by rw [pAll, er, if_neg (fun k => k rfl), if_neg c]
      have f := failH_f h1 5
      rw [ea, e6]
      exact ⟨(if_neg (show ¬ (5 : Int) = 0 by decide)).symm, f.1, by rw [f.2.1, tk.2.1, tk_end p0 ht], fun e => absurd e (show ¬ (5 : Int) = 0 by decide), fun b b1 b2 b3 => (f.2.2 b b1).trans (hfr b b1 b2 b3), by rw [f.2.2 3 (by decide)]; exact tk.1⟩
  have key : ∀ (d : Nat) (k p : Int) (S N : Int → Int) (h1 : AH), k + d = 600 → 0 ≤ k → k ≤ p → lnP h1 o n B S N p → (∀ b, b ≠ 2 → b ≠ 3 → (b < o ∨ o + 7 < b) → h1 b = h b) → pTxt n B 600 0 S0 (fun _ => 0) = pTxt n B d p S N → XI mX3_read 23 [some (vR 2), some (vR o), some (vI k)] [] w h1 (fun x h' => x = (if (pAll n B).1 = 0 then 1 else 0) ∧ txR h h' o n (pAll n B)) := by
    intro d
    induction d with
    | zero =>
      intro k p S N h1 hk k0 kp P hfr er
      have tk := P.2.2.1
      have p0 := P.2.2.2.1
      refine r_X3_read_23 sA ⟨by omega, fun _ => fin p S N h1 P hfr ?_ (by rw [er, pTxt]), fun c => absurd c (by omega)⟩
      have := (pTxt_g (n := n) (B := B) 0 p S N P.2.2.2.2.2.2.2.1 P.2.2.2.2.2.2.2.2 p0.1 p0.2).2 (by omega)
      rw [pTxt] at this
      exact this rfl
    | succ d ih =>
      intro k p S N h1 hk k0 kp P hfr er
      obtain ⟨-, tp1, tk, p0, ⟨hf, hp⟩, hS, hN, ok, oN⟩ := id P
      obtain ⟨r1, r2, r3⟩ := isTk_r tk
      rw [pTxt_s n B d p S N] at er
      refine r_X3_read_23 sA ⟨by omega, fun c => absurd c (by omega), fun _ => ⟨r1, fun c => ?_, fun c => ?_⟩⟩
      · rw [tk.2.2.2.1] at c
        rw [if_pos c] at er
        exact fin p S N h1 P hfr c er
      · rw [tk.2.2.2.1] at c
        rw [if_neg c] at er
        refine (c_X3_line sA P).mono ?_
        rintro x h2 ⟨ex, l1, l2, l3, l4, l5⟩
        have g := pLine_g (B := B) ok oN p0
        by_cases z : (pLine n B S N p).1 = 0
        · rw [if_pos z] at ex
          rw [if_neg (fun k => k z)] at er
          obtain ⟨m1, m2, m3⟩ := l3 z
          obtain ⟨s1, s2, s3, s4, s5⟩ := g.2 z
          refine ⟨by omega, fun _ => ih (k + 1) _ _ _ h2 (by omega) (by omega) (by omega) ⟨ho, tpO_f tp1 (l4 4 (by decide) (by decide) (by omega)), m1, by omega, ⟨by omega, by omega⟩, m2, m3, s1, s2⟩ (fun b b1 b2 b3 => (l4 b b1 b2 b3).trans (hfr b b1 b2 b3)) er, fun c2 => absurd c2 (by omega)⟩
        · rw [if_neg z] at ex
          rw [if_pos z] at er
          have ea : pAll n B = pLine n B S N p := by rw [pAll, er, if_pos z]
          rw [ea]
          exact ⟨by omega, fun c2 => absurd ex c2, fun _ => ⟨(if_neg z).symm, l1, l2, fun e => absurd e z, fun b b1 b2 b3 => (l4 b b1 b2 b3).trans (hfr b b1 b2 b3), l5⟩⟩
  refine e_X3_read (r_X3_read_0 sA ?_)
  intro h1 e1 h3 e3
  refine ⟨(fa_set sA ho).1, (c_X5_clear (fa_set sA ho).1).mono ?_⟩
  intro h6 e6
  have f3 : ∀ b, b ≠ 2 → h3 b = h b := fun b hb => by rw [e3, st_row _ _ _ hb, e1, st_row _ _ _ hb]
  have f6 : ∀ b, b ≠ 2 → b ≠ o → h6 b = h b := fun b hb b2 => by rw [e6, st_row _ _ _ b2, st_row _ _ _ b2, st_row _ _ _ b2, st_row _ _ _ b2, st_row _ _ _ b2]; exact f3 b hb
  have c2 : h6 2 = h3 2 := by rw [e6, st_row _ _ _ (by omega), st_row _ _ _ (by omega), st_row _ _ _ (by omega), st_row _ _ _ (by omega), st_row _ _ _ (by omega)]
  refine (c_X6_rewind (fa_tape sA) (by rw [f6 3 (by decide) (by omega)]; exact hn) n0 (by rw [show (3 : Int) + 1 = 4 from rfl, f6 4 (by decide) (by omega)]; exact tp.2.1) tp.2.2).mono ?_
  rintro h7 ⟨tk7, f7⟩
  have o7 : h7 o = h6 o := f7 o (by omega)
  have e96 : S0 96 = 0 := by decide
  have e97 : S0 97 = 0 := by decide
  have so : isS h7 o S0 := by
    refine ⟨?_, ?_, ?_, ?_, ?_, fun k k0 k1 => by omega, fun k k0 k1 => by omega⟩
    · rw [o7, e6, st_slot _ _ _ _ (by decide), st_slot _ _ _ _ (by decide), st_slot _ _ _ _ (by decide), st_slot _ _ _ _ (by decide), st_same]; rfl
    · rw [o7, e6, st_slot _ _ _ _ (by decide), st_slot _ _ _ _ (by decide), st_slot _ _ _ _ (by decide), st_same]; rfl
    · rw [o7, e6, st_slot _ _ _ _ (by decide), st_slot _ _ _ _ (by decide), st_same]; rfl
    · rw [o7, e6, st_slot _ _ _ _ (by decide), st_same]; rfl
    · rw [o7, e6, st_same]; rfl
  refine key 600 0 0 S0 (fun _ => 0) h7 (by omega) (by omega) (by omega) ⟨ho, ⟨n0, by rw [f7 4 (by decide), f6 4 (by decide) (by omega)]; exact tp.2.1, tp.2.2⟩, tk7, by omega, ⟨by rw [f7 2 (by decide), c2, e3, st_slot _ _ _ _ (by decide), e1, st_same], by rw [f7 2 (by decide), c2, e3, st_same]⟩, so, fun k k0 k1 => by omega, S0_ok.1, S0_ok.2⟩ (fun b b1 b2 b3 => by rw [f7 b b2, f6 b b1 (by omega)]) rfl
end
