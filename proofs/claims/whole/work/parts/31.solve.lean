/-! the class's tables -/
abbrev tC (h : AH) (pl : Int) : Int → Int := fun p => h (pl + 1) (p + 1)
abbrev tM (h : AH) (pl : Int) : Int → Int := fun p => h (pl + 2) (p + 1)
abbrev tN (h : AH) (pl : Int) : Int → Int := fun p => h (pl + 3) (p + 1)
def setB (h : AH) (pl p c m x : Int) : AH := st (st (st h (pl + 1) (p + 1) c) (pl + 2) (p + 1) m) (pl + 3) (p + 1) x
theorem setB_C (h : AH) (pl p c m x q : Int) : tC (setB h pl p c m x) pl q = if q = p then c else tC h pl q := by
  unfold setB
  show st _ _ _ _ (pl + 1) (q + 1) = _
  rw [st_cell _ _ _ _ (show pl + 1 ≠ pl + 3 by omega), st_cell _ _ _ _ (show pl + 1 ≠ pl + 2 by omega)]
  split
  · next e => rw [e, st_same]
  · next e => rw [st_slot _ _ _ _ (show q + 1 ≠ p + 1 by omega)]
theorem setB_M (h : AH) (pl p c m x q : Int) : tM (setB h pl p c m x) pl q = if q = p then m else tM h pl q := by
  unfold setB
  show st _ _ _ _ (pl + 2) (q + 1) = _
  rw [st_cell _ _ _ _ (show pl + 2 ≠ pl + 3 by omega)]
  split
  · next e => rw [e, st_same]
  · next e => rw [st_slot _ _ _ _ (show q + 1 ≠ p + 1 by omega), st_cell _ _ _ _ (show pl + 2 ≠ pl + 1 by omega)]
theorem setB_N (h : AH) (pl p c m x q : Int) : tN (setB h pl p c m x) pl q = if q = p then x else tN h pl q := by
  unfold setB
  show st _ _ _ _ (pl + 3) (q + 1) = _
  split
  · next e => rw [e, st_same]
  · next e => rw [st_slot _ _ _ _ (show q + 1 ≠ p + 1 by omega), st_cell _ _ _ _ (show pl + 3 ≠ pl + 2 by omega), st_cell _ _ _ _ (show pl + 3 ≠ pl + 1 by omega)]
theorem setB_f (h : AH) (pl p c m x : Int) {b : Int} (hb : b < pl ∨ pl + 3 < b) : setB h pl p c m x b = h b := by
  unfold setB
  rw [st_row _ _ _ (show b ≠ pl + 3 by omega), st_row _ _ _ (show b ≠ pl + 2 by omega), st_row _ _ _ (show b ≠ pl + 1 by omega)]
/-- only the tables' entries of one tick have changed -/
def only (h h' : AH) (pl p : Int) : Prop := (∀ q, q ≠ p → tC h' pl q = tC h pl q ∧ tM h' pl q = tM h pl q ∧ tN h' pl q = tN h pl q) ∧ ∀ b, (b < pl ∨ pl + 3 < b) → h' b = h b
theorem only_set (h : AH) (pl p c m x : Int) : only h (setB h pl p c m x) pl p := ⟨fun q hq => by rw [setB_C, setB_M, setB_N, if_neg hq, if_neg hq, if_neg hq]; exact ⟨rfl, rfl, rfl⟩, fun b hb => setB_f h pl p c m x hb⟩
theorem only_rfl (h : AH) (pl p : Int) : only h h pl p := ⟨fun _ _ => ⟨rfl, rfl, rfl⟩, fun _ _ => rfl⟩
theorem only_tr {h h1 h2 : AH} {pl p : Int} (a : only h h1 pl p) (b : only h1 h2 pl p) : only h h2 pl p := ⟨fun q hq => ⟨(b.1 q hq).1.trans (a.1 q hq).1, (b.1 q hq).2.1.trans (a.1 q hq).2.1, (b.1 q hq).2.2.trans (a.1 q hq).2.2⟩, fun x hx => (b.2 x hx).trans (a.2 x hx)⟩
/-- what the scan from lo on has found so far, ahead of t -/
def scan (g : Int → Int → Int) (h : AH) (pl p lo t : Int) : Prop := (t = lo ∧ tC h pl p = 1000000 ∧ tM h pl p = 1000000) ∨ (lo < t ∧ bst g (tC h pl) (tM h pl) p lo (t - 1) (tN h pl p) (tC h pl p) (tM h pl p))
section
variable {w : WS} {h : AH} {pl p v c o n : Int} {F L W S : Int → Int}
theorem c_X2_setBest {a b d : Int} (sp : shPlan w pl) (hp : -1 ≤ p ∧ p ≤ 300) : CV mX2_setBest [vR pl, vI p, vI a, vI b, vI d] w h (fun h' => h' = setB h pl p a b d) := by
  obtain ⟨s0, f0, f1, f2, ⟨t1, t2, t3⟩, l1, l2, l3⟩ := sp
  refine e_X2_setBest (r_X2_setBest_0 ?_)
  rw [f0, f1, f2]
  refine ⟨by omega, fun q => absurd q (by omega), fun q => ⟨s0, t1, by omega, fun q2 => absurd q2 (by omega), fun q2 => ⟨by omega, by omega, ?_⟩⟩⟩
  intro h1 e1
  refine ⟨t2, by omega, ?_⟩
  intro h2 e2
  refine ⟨t3, by omega, ?_⟩
  intro h3 e3
  rw [e3, e2, e1]; rfl
theorem c_X2_tryNext {t s : Int} (sp : shPlan w pl) (hp : -1 ≤ p ∧ p ≤ 300) (ht : -1 ≤ t ∧ t ≤ 300) (r1 : inR (s + tC h pl t)) (r2 : inR (1 + tM h pl t)) (r3 : inR (tC h pl p)) (r4 : inR (tM h pl p)) : CV mX2_tryNext [vR pl, vI p, vI t, vI s] w h (fun h' => h' = if lexlt (s + tC h pl t) (1 + tM h pl t) (tC h pl p) (tM h pl p) then setB h pl p (s + tC h pl t) (1 + tM h pl t) t else h) := by
  obtain ⟨s0, f0, f1, f2, ⟨t1, t2, t3⟩, l1, l2, l3⟩ := id sp
  refine e_X2_tryNext (r_X2_tryNext_0 ?_)
  rw [f0, f1]
  refine ⟨by omega, fun q => absurd q (by omega), fun q => ⟨s0, t1, by omega, fun q2 => absurd q2 (by omega), fun q2 => ⟨by omega, fun q3 => absurd q3 (by omega), fun q3 => ⟨fun q4 => ⟨by omega, by omega, ?_⟩, fun q4 => absurd q4 (by omega)⟩⟩⟩⟩
  intro y ey
  refine ⟨t2, by omega, ?_⟩
  intro z ez
  subst ey
  subst ez
  have hp1 : lexlt (s + tC h pl t) (1 + tM h pl t) (tC h pl p) (tM h pl p) → ∀ h', h' = setB h pl p (s + tC h pl t) (1 + tM h pl t) t → h' = if lexlt (s + tC h pl t) (1 + tM h pl t) (tC h pl p) (tM h pl p) then setB h pl p (s + tC h pl t) (1 + tM h pl t) t else h := fun c h' e => by rw [if_pos c]; exact e
  have hn1 : ¬ lexlt (s + tC h pl t) (1 + tM h pl t) (tC h pl p) (tM h pl p) → h = if lexlt (s + tC h pl t) (1 + tM h pl t) (tC h pl p) (tM h pl p) then setB h pl p (s + tC h pl t) (1 + tM h pl t) t else h := fun c => by rw [if_neg c]
  exact ⟨by omega, by omega, r1, r3, fun u => (c_X2_setBest sp hp).mono (fun h' e => hp1 (Or.inl u) h' e), fun u => ⟨fun u2 => hn1 (fun z => z.elim u (fun z => u2 z.1)), fun u2 => ⟨by omega, r2, r4, fun u3 => hn1 (fun z => z.elim u (fun z => Int.not_lt.mpr u3 z.2)), fun u3 => (c_X2_setBest sp hp).mono (fun h' e => hp1 (Or.inr ⟨u2, Int.not_le.mp u3⟩) h' e)⟩⟩⟩
/-- one more tick of the scan -/
theorem scan_more {g : Int → Int → Int} {lo t s : Int} {h1 h2 : AH} (hs : scan g h1 pl p lo t) (hlo : p < lo) (hlt : lo ≤ t) (es : s = g p t) (hb : s + tC h1 pl t < 1000000) (e : h2 = if lexlt (s + tC h1 pl t) (1 + tM h1 pl t) (tC h1 pl p) (tM h1 pl p) then setB h1 pl p (s + tC h1 pl t) (1 + tM h1 pl t) t else h1) : scan g h2 pl p lo (t + 1) ∧ only h1 h2 pl p := by
  subst es
  by_cases c : lexlt (g p t + tC h1 pl t) (1 + tM h1 pl t) (tC h1 pl p) (tM h1 pl p)
  · rw [if_pos c] at e
    subst e
    refine ⟨Or.inr ⟨by omega, ?_⟩, only_set _ _ _ _ _ _⟩
    have oC : ∀ q, q ≠ p → tC (setB h1 pl p (g p t + tC h1 pl t) (1 + tM h1 pl t) t) pl q = tC h1 pl q := fun q hq => by rw [setB_C, if_neg hq]
    have oM : ∀ q, q ≠ p → tM (setB h1 pl p (g p t + tC h1 pl t) (1 + tM h1 pl t) t) pl q = tM h1 pl q := fun q hq => by rw [setB_M, if_neg hq]
    rw [setB_C, setB_M, setB_N, if_pos rfl, if_pos rfl, if_pos rfl]
    refine ⟨⟨hlt, by omega⟩, ⟨by rw [oC t (by omega)], by rw [oM t (by omega)]⟩, fun x x0 x1 => ?_⟩
    rw [oC x (by omega), oM x (by omega)]
    rcases hs with ⟨hs, -⟩ | ⟨hs, -, -, hs2⟩
    · have ex : x = t := by omega
      rw [ex]
      exact ⟨Or.inr ⟨rfl, Int.le_refl _⟩, fun q => absurd q (by omega)⟩
    · by_cases ex : x = t
      · rw [ex]
        exact ⟨Or.inr ⟨rfl, Int.le_refl _⟩, fun q => absurd q (by omega)⟩
      · have := (hs2 x x0 (by omega)).1
        exact ⟨by omega, fun _ => by omega⟩
  · rw [if_neg c] at e
    subst e
    refine ⟨?_, only_rfl _ _ _⟩
    rcases hs with ⟨hs, s1, s2⟩ | ⟨hs, s1, s2, s3⟩
    · rw [s1] at c; exact absurd (Or.inl hb) c
    · refine Or.inr ⟨by omega, ⟨s1.1, by omega⟩, s2, fun x x0 x1 => ?_⟩
      by_cases ex : x = t
      · rw [ex]
        exact ⟨by omega, fun q => absurd q (by omega)⟩
      · exact s3 x x0 (by omega)
theorem scan_0 {g : Int → Int → Int} {lo : Int} {a b d : Int} (ha : a = 1000000) (hb : b = 1000000) : scan g (setB h pl p a b d) pl p lo lo := Or.inl ⟨rfl, by rw [setB_C, if_pos rfl, ha], by rw [setB_M, if_pos rfl, hb]⟩
/-- the scan's numbers stay small -/
theorem scan_r {g : Int → Int → Int} {lo t hi : Int} {h1 : AH} (hs : scan g h1 pl p lo t) (hti : t ≤ hi + 1) (hb : ∀ x, lo ≤ x → x ≤ hi → (0 ≤ g p x + tC h1 pl x ∧ g p x + tC h1 pl x ≤ 900000) ∧ (0 ≤ tM h1 pl x ∧ tM h1 pl x ≤ 400)) : inR (tC h1 pl p) ∧ inR (tM h1 pl p) := by
  rcases hs with ⟨-, s1, s2⟩ | ⟨-, s1, s2, -⟩
  · rw [s1, s2]; decide
  · have := hb _ s1.1 (by omega)
    omega
theorem c_X2_solveEnergy {lo hi P Sy : Int} (sp : shPlan w pl) (hp : -1 ≤ p) (hlo : p < lo) (hlh : lo ≤ hi) (hhi : hi ≤ 300) (hP : 1 ≤ P ∧ P ≤ 99) (hSy : 0 ≤ Sy ∧ Sy ≤ 20) (hb : ∀ x, lo ≤ x → x ≤ hi → (0 ≤ tC h pl x ∧ tC h pl x ≤ 400000) ∧ (0 ≤ tM h pl x ∧ tM h pl x ≤ 400)) : CV mX2_solveEnergy [vR pl, vI p, vI lo, vI hi, vI P, vI Sy] w h (fun h' => bst (stpS n F W P Sy 1) (tC h pl) (tM h pl) p lo hi (tN h' pl p) (tC h' pl p) (tM h' pl p) ∧ only h h' pl p) := by
  have hg : ∀ x, lo ≤ x → x ≤ hi → stpS n F W P Sy 1 p x = (if p = -1 then P else stp P Sy p x) ∧ 0 ≤ stpS n F W P Sy 1 p x ∧ stpS n F W P Sy 1 p x ≤ 99 ∧ inR (Sy * (x - p)) := by
    intro x x0 x1
    have pr := mul_r (b := 301) hSy (show -301 ≤ x - p ∧ x - p ≤ 301 by omega)
    have pn := Int.mul_nonneg hSy.1 (show 0 ≤ x - p by omega)
    unfold stpS stp
    rw [if_neg (by decide)]
    refine ⟨rfl, ?_, ?_, by omega⟩
    · split
      · omega
      · split <;> omega
    · split
      · omega
      · split <;> omega
  refine e_X2_solveEnergy (r_X2_solveEnergy_0 ⟨sp.1, (c_X2_setBest sp ⟨hp, by omega⟩).mono ?_⟩)
  rintro h0 e0
  have key : ∀ (d : Nat) (t : Int) (h1 : AH), t + d = hi + 1 → lo ≤ t → scan (stpS n F W P Sy 1) h1 pl p lo t → only h h1 pl p → XV mX2_solveEnergy 13 [some (vR pl), some (vI p), none, some (vI hi), some (vI P), some (vI Sy), some (vI t), none] [] w h1 (fun h' => bst (stpS n F W P Sy 1) (tC h pl) (tM h pl) p lo hi (tN h' pl p) (tC h' pl p) (tM h' pl p) ∧ only h h' pl p) := by
    intro d
    induction d with
    | zero =>
      intro t h1 ht htl hs ho
      refine r_X2_solveEnergy_13 ⟨by omega, by omega, fun q => ⟨?_, ho⟩, fun q => absurd q (by omega)⟩
      rcases hs with hs | ⟨-, s1, s2, s3⟩
      · omega
      · rw [show t - 1 = hi by omega] at s1 s3
        refine ⟨s1, ?_, fun x x0 x1 => ?_⟩
        · have := ho.1 _ (show tN h1 pl p ≠ p by omega)
          rw [← this.1, ← this.2.1]; exact s2
        · have := ho.1 x (by omega)
          rw [← this.1, ← this.2.1]; exact s3 x x0 x1
    | succ d ih =>
      intro t h1 ht htl hs ho
      obtain ⟨g1, g2, g3, g4⟩ := hg t htl (by omega)
      have hb1 : ∀ x, lo ≤ x → x ≤ hi → (0 ≤ tC h1 pl x ∧ tC h1 pl x ≤ 400000) ∧ (0 ≤ tM h1 pl x ∧ tM h1 pl x ≤ 400) := fun x x0 x1 => by
        have := ho.1 x (by omega); rw [this.1, this.2.1]; exact hb x x0 x1
      have hbt := hb1 t htl (by omega)
      have hr := scan_r (hi := hi) hs (by omega) (fun x x0 x1 => by have := hg x x0 x1; have := hb1 x x0 x1; omega)
      have nx : ∀ s, s = stpS n F W P Sy 1 p t → CV mX2_tryNext [vR pl, vI p, vI t, vI s] w h1 (fun h7 => XV mX2_solveEnergy 13 [some (vR pl), some (vI p), none, some (vI hi), some (vI P), some (vI Sy), some (vI (t + 1)), none] [] w h7 (fun h' => bst (stpS n F W P Sy 1) (tC h pl) (tM h pl) p lo hi (tN h' pl p) (tC h' pl p) (tM h' pl p) ∧ only h h' pl p)) := by
        intro s es
        refine (c_X2_tryNext sp ⟨hp, by omega⟩ ⟨by omega, by omega⟩ (by omega) (by omega) hr.1 hr.2).mono ?_
        intro h2 e2
        obtain ⟨n1, n2⟩ := scan_more hs hlo htl es (by omega) e2
        exact ih (t + 1) h2 (by omega) (by omega) n1 (only_tr ho n2)
      refine r_X2_solveEnergy_13 ⟨by omega, by omega, fun q => absurd q (by omega), fun q => ⟨fun q2 => absurd q2 (by omega), fun q2 => ⟨by omega, fun q3 => ⟨by omega, g4, sp.1, nx _ ?_⟩, fun q3 => ⟨sp.1, nx _ ?_⟩⟩⟩⟩
      · rw [g1, if_neg q3, stp_min]
      · rw [g1, if_pos q3]
  subst e0
  exact key (hi + 1 - lo).toNat lo _ (by omega) (Int.le_refl _) (scan_0 rfl rfl) (only_set _ _ _ _ _ _)
end
