/-- only the fault and the token have changed -/
def fP (h h' : AH) : Prop := (∀ b, b ≠ 65 → h' b = h b) ∧ ∀ i, (i < 4 ∨ (5 < i ∧ i < 34) ∨ 38 < i) → h' 65 i = h 65 i
def rdP (h h' : AH) (n : Int) (B : Int → Int) (r : R4) (x : Int) : Prop := fP h h' ∧ h' 65 4 = r.1 ∧ h' 65 5 = r.2.1 ∧ (r.1 = 0 → x = r.2.2.2 ∧ isTM h' n B r.2.2.1)
def isQm (v : Int) : Prop := v = 1831780 ∨ v = 411 ∨ v = 10334396 ∨ v = 332864552 ∨ v = 305537 ∨ v = 3094387 ∨ v = 175125302 ∨ v = 8863997 ∨ v = 388609
def isQh (h : AH) : Prop := h (-2) 0 = 1831780 ∧ h (-2) 1 = 411 ∧ h (-2) 2 = 10334396 ∧ h (-2) 3 = 332864552 ∧ h (-2) 4 = 305537 ∧ h (-2) 5 = 3094387 ∧ h (-2) 6 = 175125302 ∧ h (-2) 7 = 8863997 ∧ h (-2) 8 = 388609
theorem dgQ {v : Int} (h : isQw v) : dg 6 v := by
  rcases h with h | h | h | h | h | h | h | h | h <;> rw [h] <;> simp [dg]
theorem c27Q : c27 6 486 = 411 ∧ c27 6 505957 = 305537 ∧ c27 6 643129 = 388609 ∧ c27 6 3540595 = 1831780 ∧ c27 6 5969497 = 3094387 ∧ c27 6 17376357 = 8863997 ∧ c27 6 20317291 = 10334396 ∧ c27 6 408362632 = 175125302 ∧ c27 6 777297172 = 332864552 := by
  refine ⟨?_, ?_, ?_, ?_, ?_, ?_, ?_, ?_, ?_⟩ <;> decide
theorem isQ_iff {v : Int} (hv : dg 6 v) : isQm (c27 6 v) ↔ isQw v := by
  obtain ⟨a1, a2, a3, a4, a5, a6, a7, a8, a9⟩ := c27Q
  have inj : ∀ u, isQw u → c27 6 v = c27 6 u → v = u := fun u hu e => c27_inj 6 v u hv (dgQ hu) e
  constructor
  · rintro (z | z | z | z | z | z | z | z | z)
    · rw [inj 3540595 (by decide) (by rw [a4]; exact z)]; decide
    · rw [inj 486 (by decide) (by rw [a1]; exact z)]; decide
    · rw [inj 20317291 (by decide) (by rw [a7]; exact z)]; decide
    · rw [inj 777297172 (by decide) (by rw [a9]; exact z)]; decide
    · rw [inj 505957 (by decide) (by rw [a2]; exact z)]; decide
    · rw [inj 5969497 (by decide) (by rw [a5]; exact z)]; decide
    · rw [inj 408362632 (by decide) (by rw [a8]; exact z)]; decide
    · rw [inj 17376357 (by decide) (by rw [a6]; exact z)]; decide
    · rw [inj 643129 (by decide) (by rw [a3]; exact z)]; decide
  · unfold isQm
    rintro (z | z | z | z | z | z | z | z | z) <;> rw [z]
    · rw [a1]; decide
    · rw [a2]; decide
    · rw [a3]; decide
    · rw [a4]; decide
    · rw [a5]; decide
    · rw [a6]; decide
    · rw [a7]; decide
    · rw [a8]; decide
    · rw [a9]; decide
section
variable {w : WS} {h : AH} {n p : Int} {B N : Int → Int}
theorem fP_rfl (h : AH) : fP h h := ⟨fun _ _ => rfl, fun _ _ => rfl⟩
theorem fP_tr {h1 h2 : AH} (a : fP h h1) (b : fP h1 h2) : fP h h2 := ⟨fun x hx => (b.1 x hx).trans (a.1 x hx), fun i hi => (b.2 i hi).trans (a.2 i hi)⟩
theorem fT_P {h' : AH} (a : fT h h') : fP h h' := ⟨a.1, fun i hi => a.2 i (by omega)⟩
theorem fP_fail {k a : Int} {h' : AH} (e : h' = st (st h 65 4 k) 65 5 a) : fP h h' ∧ h' 65 4 = k ∧ h' 65 5 = a ∧ ∀ i, i ≠ 4 → i ≠ 5 → h' 65 i = h 65 i := by
  subst e
  refine ⟨⟨fun b hb => by rw [st_row _ _ _ hb, st_row _ _ _ hb], fun i hi => by rw [st_slot _ _ _ _ (by omega), st_slot _ _ _ _ (by omega)]⟩, by rw [st_slot _ _ _ _ (by decide), st_same], st_same _ _ _ _, fun i i4 i5 => by rw [st_slot _ _ _ _ i5, st_slot _ _ _ _ i4]⟩
theorem tpR_P {h' : AH} (T : tpR h n B) (f : fP h h') : tpR h' n B := ⟨T.1, by rw [f.2 33 (by decide)]; exact T.2.1, fun i i0 i1 => by rw [f.1 67 (by decide)]; exact T.2.2.1 i i0 i1, T.2.2.2⟩
theorem isTM_f {h' : AH} (M : isTM h n B p) (e : ∀ i, 33 ≤ i → i ≤ 38 → h' 65 i = h 65 i) : isTM h' n B p := by
  unfold isTM
  rw [e 33 (by decide) (by decide), e 34 (by decide) (by decide), e 35 (by decide) (by decide), e 36 (by decide) (by decide), e 37 (by decide) (by decide), e 38 (by decide) (by decide)]
  exact M
theorem c_X9_takesT (sA : shA w) (T : tpR h n B) (M : isTM h n B p) (p0 : 0 ≤ p ∧ p ≤ n) : CV mX9_takes [vR 65] w h (fun h' => isTM h' n B (tkE n B p) ∧ fT h h') := by
  have a := tkQ_r (B := B) p0
  have b := tkE_r (B := B) p0
  exact c_X9_takes sA T M.2.2.1 (by omega)
theorem tm_word {v : Int} (M : isTM h n B p) (hv : dg 6 v) : (h 65 35 = 1 ∧ h 65 38 = c27 6 v) ↔ isw n B v p := by
  obtain ⟨m1, m2, m3, m4, m5, m6, m7, m8, m9, m10, m11, m12, m13⟩ := M
  have cr := c27_r 6 v hv
  rw [pow27.1] at cr
  constructor
  · rintro ⟨e1, e2⟩
    by_cases c : h 65 37 ≤ 6
    · have t := m9.mp ⟨e1, c⟩
      refine ⟨t, ?_⟩
      have := m10 t
      exact c27_inj 6 _ _ (tk_word t).1 hv (by rw [← this]; exact e2)
    · have := m11 e1 c
      omega
  · rintro ⟨t, e⟩
    exact ⟨(m9.mpr t).1, by rw [m10 t, e]⟩
theorem c_X9_hasWord {W v : Int} (sA : shA w) (T : tpR h n B) (M : isTM h n B p) (p0 : 0 ≤ p ∧ p ≤ n) (hg : h 65 4 = 0) (hv : isQw v) (hW : c27 6 v = W) : CI mX9_hasWord [vR 65, vL W] w h (fun x h' => (isw n B v p ∧ x = 1 ∧ isTM h' n B (tkE n B p) ∧ fT h h') ∨ (¬ isw n B v p ∧ x = 0 ∧ h' = h)) := by
  have tw := tm_word M (dgQ hv)
  have cr := c27_r 6 v (dgQ hv)
  rw [pow27.1, hW] at cr
  rw [hW] at tw
  have isW : CI mX9_isWord [vR 65, vL W] w h (fun x h' => x = (if isw n B v p then 1 else 0) ∧ h' = h) := by
    refine e_X9_isWord (r_X9_isWord_0 sA ⟨by omega, fun c => absurd hg c, fun _ => ⟨by have := M.2.2.2.1; omega, fun c => ⟨?_, rfl⟩, fun c => ⟨M.2.2.2.2.2.2.2.2.2.2.2.1 c, by omega, fun c2 => ⟨?_, rfl⟩, fun c2 => ⟨?_, rfl⟩⟩⟩⟩)
    · rw [if_neg (fun z => c (tw.mpr z).1)]
    · rw [if_neg (fun z => c2 (tw.mpr z).2)]
    · rw [if_pos (tw.mp ⟨c, c2⟩)]
  refine e_X9_hasWord (r_X9_hasWord_0 sA (isW.eq ?_))
  by_cases c : isw n B v p
  · rw [if_pos c]
    refine ⟨by decide, fun z => absurd z (by decide), fun _ => (c_X9_takesT sA T M p0).mono ?_⟩
    rintro h5 ⟨q1, q2⟩
    exact ⟨Or.inr rfl, Or.inl ⟨c, rfl, q1, q2⟩⟩
  · rw [if_neg c]
    exact ⟨by decide, fun _ => ⟨Or.inl rfl, Or.inr ⟨c, rfl, rfl⟩⟩, fun z => absurd rfl z⟩
theorem c_X9_hasWordB {W : Int} (sA : shA w) (hr : inR (h 65 4)) (hg : h 65 4 ≠ 0) : CI mX9_hasWord [vR 65, vL W] w h (fun x h' => x = 0 ∧ h' = h) := by
  have isW : CI mX9_isWord [vR 65, vL W] w h (fun x h' => x = 0 ∧ h' = h) := e_X9_isWord (r_X9_isWord_0 sA ⟨hr, fun _ => ⟨rfl, rfl⟩, fun c => absurd c hg⟩)
  exact e_X9_hasWord (r_X9_hasWord_0 sA (isW.eq ⟨by decide, fun _ => ⟨Or.inl rfl, rfl, rfl⟩, fun z => absurd rfl z⟩))
theorem c_X9_numeralB {lo hi : Int} (sA : shA w) (hr : inR (h 65 4)) (hg : h 65 4 ≠ 0) : CI mX9_numeral [vR 65, vI lo, vI hi] w h (fun x h' => x = lo ∧ h' = h) := by
  exact e_X9_numeral (r_X9_numeral_0 sA ⟨hr, fun _ => r_X9_numeral_24 sA ⟨hr, fun _ => r_X9_numeral_60 sA ⟨hr, fun c => absurd c hg, fun _ => ⟨rfl, rfl⟩⟩, fun c => absurd c hg⟩, fun c => absurd c hg⟩)
theorem c_X9_numeral {lo hi : Int} (sA : shA w) (T : tpR h n B) (M : isTM h n B p) (p0 : 0 ≤ p ∧ p ≤ n) (hg : h 65 4 = 0) (hp : h 65 5 = -1) (hlo : inR lo) (hhi : inR hi) : CI mX9_numeral [vR 65, vI lo, vI hi] w h (fun x h' => rdP h h' n B (pNum n B lo hi p) x) := by
  obtain ⟨m1, m2, m3, m4, m5, m6, m7, m8, m9, m10, m11, m12, m13⟩ := id M
  have bad : ∀ (f : Int) (h5 : AH), 0 < f → f ≤ 5 → h5 = st (st h 65 4 f) 65 5 (h 65 36) → pNum n B lo hi p = (f, tkQ n B p, p, -1) → XI mX9_numeral 60 [some (vR 65), some (vI lo), none, none] [] w h5 (fun x h' => rdP h h' n B (pNum n B lo hi p) x) := by
    intro f h5 f0 f1 e5 er
    obtain ⟨a1, a2, a3, a4⟩ := fP_fail e5
    refine r_X9_numeral_60 sA ⟨by omega, fun c => by omega, fun _ => ?_⟩
    rw [er]
    exact ⟨a1, a2, by rw [a3]; exact m2, fun z => by dsimp only at z; omega⟩
  have bad24 : ∀ (f : Int) (h5 : AH), 0 < f → f ≤ 5 → h5 = st (st h 65 4 f) 65 5 (h 65 36) → pNum n B lo hi p = (f, tkQ n B p, p, -1) → XI mX9_numeral 24 [some (vR 65), some (vI lo), some (vI hi), none] [] w h5 (fun x h' => rdP h h' n B (pNum n B lo hi p) x) := by
    intro f h5 f0 f1 e5 er
    have a2 := (fP_fail e5).2.1
    exact r_X9_numeral_24 sA ⟨by omega, fun _ => bad f h5 f0 f1 e5 er, fun c => by omega⟩
  refine e_X9_numeral (r_X9_numeral_0 sA ⟨by omega, fun c => absurd hg c, fun _ => ⟨by omega, fun c => ?_, fun c => (c_X9_failsG sA hg).mono fun h3 e3 => bad24 1 h3 (by decide) (by decide) e3 ?_⟩⟩)
  · have t := m7.mp c
    have tn := tk_num t
    have ev := m8 t
    refine r_X9_numeral_24 sA ⟨by omega, fun c => absurd hg c, fun _ => ⟨hlo, by omega, by omega, fun c2 => (c_X9_failsG sA hg).mono fun h5 e5 => bad 3 h5 (by decide) (by decide) e5 ?_, fun c2 => ⟨hhi, by omega, fun c3 => ?_, fun c3 => (c_X9_failsG sA hg).mono fun h5 e5 => bad 3 h5 (by decide) (by decide) e5 ?_⟩⟩⟩
    · rw [pNum, if_neg (fun z => z t), if_pos (by omega)]
    · have er : pNum n B lo hi p = (0, -1, tkE n B p, tkV n B p) := by rw [pNum, if_neg (fun z => z t), if_neg (by omega)]
      refine r_X9_numeral_60 sA ⟨by omega, fun _ => (c_X9_takesT sA T M p0).mono ?_, fun z => absurd hg z⟩
      rintro h2 ⟨q1, q2⟩
      rw [er]
      exact ⟨fT_P q2, by rw [q2.2 4 (by decide)]; exact hg, by rw [q2.2 5 (by decide)]; exact hp, fun _ => ⟨ev, q1⟩⟩
    · rw [pNum, if_neg (fun z => z t), if_pos (by omega)]
  · rw [pNum, if_pos (fun z => c (m7.mpr z))]
theorem c_X9_isQuoted (sA : shA w) (Q : isQh h) (hv : inL (h 65 38)) : CI mX9_isQuoted [vR 65] w h (fun x h' => (x = 1 ∧ isQm (h 65 38) ∨ x = 0 ∧ ¬ isQm (h 65 38)) ∧ h' = h) := by
  obtain ⟨q0, q1, q2, q3, q4, q5, q6, q7, q8⟩ := Q
  have step : ∀ (i u : Int) (Qc : Int → AH → Prop), 0 ≤ i → i < 9 → h (-2) i = u → inL u → (h 65 38 = u → Qc 1 h) → (h 65 38 ≠ u → XI mX9_isQuoted 2 [some (vR 65), some (vI (i + 1))] [] w h Qc) → XI mX9_isQuoted 2 [some (vR 65), some (vI i)] [] w h Qc := by
    intro i u Qc i0 i1 e hu K1 K2
    refine r_X9_isQuoted_2 sA ?_
    rw [e]
    exact ⟨by omega, fun c => absurd c (by omega), fun _ => ⟨i0, i1, hu, hv, fun c => K2 (fun z => c z.symm), fun c => K1 c.symm⟩⟩
  refine e_X9_isQuoted (r_X9_isQuoted_0 sA ?_)
  unfold isQm
  refine step 0 _ _ (by decide) (by decide) q0 (by decide) (fun e => ⟨Or.inl ⟨rfl, by omega⟩, rfl⟩) (fun e0 => ?_)
  refine step (0 + 1) _ _ (by decide) (by decide) q1 (by decide) (fun e => ⟨Or.inl ⟨rfl, by omega⟩, rfl⟩) (fun e1 => ?_)
  refine step (0 + 1 + 1) _ _ (by decide) (by decide) q2 (by decide) (fun e => ⟨Or.inl ⟨rfl, by omega⟩, rfl⟩) (fun e2 => ?_)
  refine step (0 + 1 + 1 + 1) _ _ (by decide) (by decide) q3 (by decide) (fun e => ⟨Or.inl ⟨rfl, by omega⟩, rfl⟩) (fun e3 => ?_)
  refine step (0 + 1 + 1 + 1 + 1) _ _ (by decide) (by decide) q4 (by decide) (fun e => ⟨Or.inl ⟨rfl, by omega⟩, rfl⟩) (fun e4 => ?_)
  refine step (0 + 1 + 1 + 1 + 1 + 1) _ _ (by decide) (by decide) q5 (by decide) (fun e => ⟨Or.inl ⟨rfl, by omega⟩, rfl⟩) (fun e5 => ?_)
  refine step (0 + 1 + 1 + 1 + 1 + 1 + 1) _ _ (by decide) (by decide) q6 (by decide) (fun e => ⟨Or.inl ⟨rfl, by omega⟩, rfl⟩) (fun e6 => ?_)
  refine step (0 + 1 + 1 + 1 + 1 + 1 + 1 + 1) _ _ (by decide) (by decide) q7 (by decide) (fun e => ⟨Or.inl ⟨rfl, by omega⟩, rfl⟩) (fun e7 => ?_)
  refine step (0 + 1 + 1 + 1 + 1 + 1 + 1 + 1 + 1) _ _ (by decide) (by decide) q8 (by decide) (fun e => ⟨Or.inl ⟨rfl, by omega⟩, rfl⟩) (fun e8 => ?_)
  exact r_X9_isQuoted_2 sA ⟨by decide, fun _ => ⟨Or.inr ⟨rfl, by omega⟩, rfl⟩, fun c => absurd (by decide) c⟩
theorem c_X9_namedB (sA : shA w) (hr : inR (h 65 4)) (hg : h 65 4 ≠ 0) : CI mX9_named [vR 65] w h (fun x h' => x = -1 ∧ h' = h) := by
  exact e_X9_named (r_X9_named_0 sA ⟨hr, fun _ => r_X9_named_40 sA ⟨hr, fun c => absurd c hg, fun _ => ⟨rfl, rfl⟩⟩, fun c => absurd c hg⟩)
theorem c_X9_named {c : Int} (sA : shA w) (Qh : isQh h) (M : isTM h n B p) (hg : h 65 4 = 0) (hc : h 66 197 = c) (c0 : 0 ≤ c ∧ c ≤ 8) (hN : ∀ k, 0 ≤ k → k < c → h 68 (8 + k) = c27 6 (N k) ∧ dg 6 (N k)) : CI mX9_named [vR 65] w h (fun x h' => (nmA n B p ∧ x = fnd N (tkV n B p) c.toNat 0 ∧ h' = h) ∨ (¬ nmA n B p ∧ x = -1 ∧ h' = st (st h 65 4 1) 65 5 (tkQ n B p))) := by
  obtain ⟨m1, m2, m3, m4, m5, m6, m7, m8, m9, m10, m11, m12, m13⟩ := id M
  have bad : ¬ nmA n B p → ∀ h3 : AH, h3 = st (st h 65 4 1) 65 5 (h 65 36) → XI mX9_named 40 [some (vR 65), none] [] w h3 (fun x h' => (nmA n B p ∧ x = fnd N (tkV n B p) c.toNat 0 ∧ h' = h) ∨ (¬ nmA n B p ∧ x = -1 ∧ h' = st (st h 65 4 1) 65 5 (tkQ n B p))) := by
    intro hn h3 e3
    have a2 := (fP_fail e3).2.1
    refine r_X9_named_40 sA ⟨by omega, fun z => by omega, fun _ => Or.inr ⟨hn, rfl, ?_⟩⟩
    rw [e3, m2]
  refine e_X9_named (r_X9_named_0 sA ⟨by omega, fun z => absurd hg z, fun _ => ⟨by omega, fun d => (c_X9_failsG sA hg).mono fun h3 e3 => bad ?_ h3 e3, fun d => ⟨m13, fun d2 => (c_X9_failsG sA hg).mono fun h5 e5 => bad ?_ h5 e5, fun d2 => ?_⟩⟩⟩)
  · exact fun z => d (m9.mpr z.1).1
  · exact fun z => by have := (m9.mpr z.1).2; omega
  · have t := m9.mp ⟨d, by omega⟩
    have ev := m10 t
    have dv := (tk_word t).1
    have qi := isQ_iff dv
    rw [← ev] at qi
    refine (c_X9_isQuoted sA Qh (m12 d)).mono ?_
    rintro x h6 ⟨z, rfl⟩
    rcases z with ⟨z1, z2⟩ | ⟨z1, z2⟩
    · exact ⟨by omega, fun y => absurd y (by omega), fun _ => (c_X9_failsG sA hg).mono fun h9 e9 => bad (fun y => y.2 (qi.mp z2)) h9 e9⟩
    · have nm : nmA n B p := ⟨t, fun y => z2 (qi.mpr y)⟩
      refine ⟨by omega, fun _ => r_X9_named_40 sA ⟨by omega, fun _ => ?_, fun y => absurd hg y⟩, fun y => absurd z1 y⟩
      have key : ∀ (d : Nat) (i : Int), i + d = c → 0 ≤ i → fnd N (tkV n B p) d i = fnd N (tkV n B p) c.toNat 0 → XI mX9_named 51 [some (vR 65), some (vI i)] [] w h6 (fun x h' => (nmA n B p ∧ x = fnd N (tkV n B p) c.toNat 0 ∧ h' = h6) ∨ (¬ nmA n B p ∧ x = -1 ∧ h' = st (st h6 65 4 1) 65 5 (tkQ n B p))) := by
        intro d
        induction d with
        | zero =>
          intro i hi i0 ef
          refine r_X9_named_51 sA ?_
          rw [hc]
          exact ⟨by omega, by omega, fun _ => ⟨fun y => absurd (by omega) y, fun _ => Or.inl ⟨nm, ef, rfl⟩⟩, fun y => absurd y (by omega)⟩
        | succ d ih =>
          intro i hi i0 ef
          obtain ⟨n1, n2⟩ := hN i i0 (by omega)
          have cr := c27_r 6 _ n2
          rw [pow27.1] at cr
          rw [fnd] at ef
          refine r_X9_named_51 sA ?_
          rw [hc, n1]
          refine ⟨by omega, by omega, fun y => absurd y (by omega), fun _ => ⟨by omega, by omega, by omega, m12 (by omega), fun y => ⟨fun _ => Or.inl ⟨nm, ?_, rfl⟩, fun y2 => absurd y2 (by omega)⟩, fun y => ?_⟩⟩
          · have e : N i = tkV n B p := c27_inj 6 _ _ n2 dv (by rw [← ev]; exact y)
            rw [if_pos e] at ef; exact ef
          · have e : ¬ N i = tkV n B p := fun q => y (by rw [q]; exact ev.symm)
            rw [if_neg e] at ef
            exact ih (i + 1) (by omega) (by omega) ef
      exact key c.toNat 0 (by omega) (by omega) rfl
theorem c_X9_knownB (sA : shA w) (hr : inR (h 65 4)) (hg : h 65 4 ≠ 0) : CI mX9_known [vR 65] w h (fun x h' => x = 0 ∧ h' = h) := by
  exact e_X9_known (r_X9_known_0 sA ((c_X9_namedB sA hr hg).eq ⟨hr, fun _ => r_X9_known_26 sA ⟨hr, fun c => absurd c hg, fun _ => ⟨rfl, rfl⟩⟩, fun c => absurd c hg⟩))
theorem c_X9_known {c : Int} (sA : shA w) (Qh : isQh h) (T : tpR h n B) (M : isTM h n B p) (p0 : 0 ≤ p ∧ p ≤ n) (hg : h 65 4 = 0) (hp : h 65 5 = -1) (hc : h 66 197 = c) (c0 : 0 ≤ c ∧ c ≤ 8) (hN : ∀ k, 0 ≤ k → k < c → h 68 (8 + k) = c27 6 (N k) ∧ dg 6 (N k)) : CI mX9_known [vR 65] w h (fun x h' => rdP h h' n B (pKnd n B N c p) x) := by
  have bad : ∀ (f x : Int) (h5 : AH), 0 < f → f ≤ 5 → h5 = st (st h 65 4 f) 65 5 (tkQ n B p) → pKnd n B N c p = (f, tkQ n B p, p, -1) → XI mX9_known 26 [some (vR 65), some (vI x)] [] w h5 (fun x h' => rdP h h' n B (pKnd n B N c p) x) := by
    intro f x h5 f0 f1 e5 er
    obtain ⟨a1, a2, a3, a4⟩ := fP_fail e5
    refine r_X9_known_26 sA ⟨by omega, fun c => by omega, fun _ => ?_⟩
    rw [er]
    exact ⟨a1, a2, a3, fun z => by dsimp only at z; omega⟩
  refine e_X9_known (r_X9_known_0 sA ((c_X9_named sA Qh M hg hc c0 hN).mono ?_))
  intro x h1 z
  rcases z with ⟨z1, z2, rfl⟩ | ⟨z1, z2, z3⟩
  · have fr := fnd_r (nm := N) (v := tkV n B p) c.toNat 0
    refine ⟨by omega, fun y => absurd hg y, fun _ => ⟨by omega, fun y => ?_, fun y => (c_X9_failsG sA hg).mono fun h5 e5 => bad 2 x h5 (by decide) (by decide) (by rw [e5, M.2.1]) ?_⟩⟩
    · have er : pKnd n B N c p = (0, -1, tkE n B p, fnd N (tkV n B p) c.toNat 0) := by rw [pKnd, if_neg (fun q => q z1), if_neg (by omega)]
      refine r_X9_known_26 sA ⟨by omega, fun _ => (c_X9_takesT sA T M p0).mono ?_, fun q => absurd hg q⟩
      rintro h2 ⟨q1, q2⟩
      rw [er]
      exact ⟨fT_P q2, by rw [q2.2 4 (by decide)]; exact hg, by rw [q2.2 5 (by decide)]; exact hp, fun _ => ⟨z2, q1⟩⟩
    · rw [pKnd, if_neg (fun q => q z1), if_pos (by omega)]
  · have a2 := (fP_fail z3).2.1
    refine ⟨by omega, fun _ => bad 1 x h1 (by decide) (by decide) z3 ?_, fun y => by omega⟩
    rw [pKnd, if_pos z1]
end
