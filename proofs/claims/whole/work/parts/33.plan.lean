theorem bst_congr {g : Int → Int → Int} {BC BM BC' BM' : Int → Int} {p lo hi x c m : Int} (he : ∀ t, lo ≤ t → t ≤ hi → BC' t = BC t ∧ BM' t = BM t) (a : bst g BC BM p lo hi x c m) : bst g BC' BM' p lo hi x c m := by
  obtain ⟨a1, a2, a3⟩ := a
  have e := he x a1.1 a1.2
  refine ⟨a1, by rw [e.1, e.2]; exact a2, fun t t0 t1 => ?_⟩
  have e2 := he t t0 t1
  rw [e2.1, e2.2]; exact a3 t t0 t1
theorem isB_only {n : Int} {F L : Int → Int} {g : Int → Int → Int} {h h' : AH} {pl p q : Int} (ho : only h h' pl p) (hpq : p < q) (a : isB n F L g (tC h pl) (tM h pl) (tN h pl) q) : isB n F L g (tC h' pl) (tM h' pl) (tN h' pl) q := by
  have e := ho.1 q (by omega)
  rcases a with ⟨a1, a2⟩ | ⟨d, a1, a2, a3⟩
  · exact Or.inl ⟨a1, by rw [e.1, e.2.1, e.2.2]; exact a2⟩
  · refine Or.inr ⟨d, a1, a2, ?_⟩
    rw [e.1, e.2.1, e.2.2]
    exact bst_congr (fun t t0 t1 => ⟨(ho.1 t (by omega)).1, (ho.1 t (by omega)).2.1⟩) a3
/-- to wake where nothing is there to be answered is never best -/
theorem skipB {n : Int} {F L W : Int → Int} (ok : okC n F L W) {g : Int → Int → Int} {BC BM BN : Int → Int} {p len a d x c m : Int} (hg : ∀ t u, p < t → t < u → (∀ k, 0 ≤ k → k < n → p < F k → t < F k) → g p u ≤ g p t + g t u) (tab : ∀ q, p < q → q ≤ len → isB n F L g BC BM BN q ∧ (BN q ≠ -1 → ∃ k, (0 ≤ k ∧ k < n) ∧ q < F k ∧ F k ≤ BN q)) (hp : -1 ≤ p) (ha : 0 ≤ a ∧ a < n) (hpa : p < F a) (hmin : ∀ k, 0 ≤ k → k < n → p < F k → F a ≤ F k) (hd : lst L (fun k => (0 ≤ k ∧ k < n) ∧ p < F k) d) (hdl : d ≤ len) (hb : bst g BC BM p (F a) d x c m) : bst g BC BM p (p + 1) d x c m := by
  obtain ⟨b1, b2, b3⟩ := hb
  refine ⟨by omega, b2, fun t t0 t1 => ?_⟩
  by_cases ct : F a ≤ t
  · exact b3 t ct t1
  · have beh : ∀ k, ((0 ≤ k ∧ k < n) ∧ p < F k) ↔ ((0 ≤ k ∧ k < n) ∧ t < F k) := fun k => by
      constructor
      · rintro ⟨k0, k1⟩; have := hmin k k0.1 k0.2 k1; exact ⟨k0, by omega⟩
      · rintro ⟨k0, k1⟩; exact ⟨k0, by omega⟩
    obtain ⟨i1, i2⟩ := tab t (by omega) (by omega)
    rcases i1 with ⟨i1, -⟩ | ⟨d', d0, dl, db⟩
    · have := i1 a ha.1 ha.2; omega
    · have ed : d' = d := lst_one (fun k q => by have := (ok.2.1 k q.1.1 q.1.2).1; omega) dl (lst_iff beh hd)
      subst ed
      obtain ⟨u1, u2, -⟩ := db
      obtain ⟨k, k0, k1, k2⟩ := i2 (by omega)
      have := hmin k k0.1 k0.2 (by omega)
      have cu := (b3 (BN t) (by omega) u1.2).1
      have tri := hg t (BN t) (by omega) (by omega) (fun j j0 j1 j2 => by have := hmin j j0 j1 j2; omega)
      exact ⟨by omega, fun _ => by omega⟩
theorem stp_tri {P Sy a b c : Int} (hP : 0 ≤ P) (hS : 0 ≤ Sy) (h1 : a ≤ b) (h2 : b ≤ c) : stp P Sy a c ≤ stp P Sy a b + stp P Sy b c := by
  have e : Sy * (c - a) = Sy * (b - a) + Sy * (c - b) := by rw [← Int.mul_add]; congr 1; omega
  have p1 := Int.mul_nonneg hS (show 0 ≤ b - a by omega)
  have p2 := Int.mul_nonneg hS (show 0 ≤ c - b by omega)
  unfold stp
  rw [e]
  split <;> split <;> split <;> omega
theorem stp_0 {P Sy a b : Int} (hP : 0 ≤ P) (hS : 0 ≤ Sy) (h1 : a ≤ b) : 0 ≤ stp P Sy a b ∧ stp P Sy a b ≤ P := by
  have p1 := Int.mul_nonneg hS (show 0 ≤ b - a by omega)
  unfold stp
  split <;> omega
theorem wtB_skip {F W : Int → Int} {p t u : Int} : ∀ i : Nat, (∀ k : Nat, k < i → p < F k → t < F k) → p ≤ t → wtB F W p u i = wtB F W t u i := by
  intro i
  induction i with
  | zero => intro _ _; rfl
  | succ i ih =>
    intro hk hpt
    rw [wtB, wtB, ih (fun k q => hk k (by omega)) hpt]
    have := hk i (by omega)
    by_cases c : p < F i ∧ F i ≤ u
    · rw [if_pos c, if_pos ⟨by omega, c.2⟩]
    · rw [if_neg c, if_neg (by omega)]
theorem stpS_tri {n : Int} {F L W : Int → Int} (ok : okC n F L W) {P Sy en p t u : Int} (hP : 1 ≤ P) (hS : 0 ≤ Sy) (hp : -1 ≤ p) (h1 : p < t) (h2 : t < u) (hk : ∀ k, 0 ≤ k → k < n → p < F k → t < F k) : stpS n F W P Sy en p u ≤ stpS n F W P Sy en p t + stpS n F W P Sy en t u := by
  unfold stpS
  by_cases c : en = 0
  · rw [if_pos c, if_pos c, if_pos c, wtB_skip n.toNat (fun k q => hk k (by omega) (by omega)) (show p ≤ t by omega) (u := u)]
    have e : wtB F W p t n.toNat = wtB F W t t n.toNat := wtB_skip n.toNat (fun k q => hk k (by omega) (by omega)) (by omega)
    have z : ∀ i : Nat, wtB F W t t i = 0 := by
      intro i
      induction i with
      | zero => rfl
      | succ i ih => rw [wtB, ih, if_neg (by omega)]; rfl
    rw [e, z]; omega
  · rw [if_neg c, if_neg c, if_neg c]
    by_cases d : p = -1
    · rw [if_pos d, if_pos d, if_neg (by omega)]
      have := stp_0 (show 0 ≤ P by omega) hS (show t ≤ u by omega)
      omega
    · rw [if_neg d, if_neg d, if_neg (by omega)]
      exact stp_tri (by omega) hS (by omega) (by omega)
theorem stpS_r {n : Int} {F L W : Int → Int} (ok : okC n F L W) {P Sy en p t : Int} (hP : 1 ≤ P ∧ P ≤ 99) (hS : 0 ≤ Sy) (h1 : p < t) (hk : ∀ k, 0 ≤ k → k < n → p < F k → t ≤ L k) : 0 ≤ stpS n F W P Sy en p t ∧ stpS n F W P Sy en p t ≤ 99 + 891 * (cle F t n.toNat - cle F p n.toNat) := by
  have hn := ok.1
  have w := wtB_r ok (p := p) (t := t) (by omega) hk n.toNat (by omega)
  unfold stpS
  split
  · omega
  · split
    · omega
    · have := stp_0 (show 0 ≤ P by omega) hS (show p ≤ t by omega)
      omega
section
variable {w : WS} {h : AH} {pl p v c o n : Int} {F L W S : Int → Int}
/-- what the tables hold of the ticks behind p -/
def tabR (n : Int) (F L : Int → Int) (g : Int → Int → Int) (len : Int) (h : AH) (pl p : Int) : Prop := ∀ q, p < q → q ≤ len → isB n F L g (tC h pl) (tM h pl) (tN h pl) q ∧ (tN h pl q ≠ -1 → ∃ k, (0 ≤ k ∧ k < n) ∧ q < F k ∧ F k ≤ tN h pl q) ∧ (0 ≤ tC h pl q ∧ tC h pl q ≤ 99 * (300 - q) + 891 * (n - cle F q n.toNat)) ∧ (0 ≤ tM h pl q ∧ tM h pl q ≤ 300 - q)
theorem tabR_next {g : Int → Int → Int} {len : Int} {h h' : AH} (ho : only h h' pl p) (ht : tabR n F L g len h pl p) (hB : isB n F L g (tC h' pl) (tM h' pl) (tN h' pl) p ∧ (tN h' pl p ≠ -1 → ∃ k, (0 ≤ k ∧ k < n) ∧ p < F k ∧ F k ≤ tN h' pl p) ∧ (0 ≤ tC h' pl p ∧ tC h' pl p ≤ 99 * (300 - p) + 891 * (n - cle F p n.toNat)) ∧ (0 ≤ tM h' pl p ∧ tM h' pl p ≤ 300 - p)) : tabR n F L g len h' pl (p + -1) := by
  intro q q0 q1
  by_cases e : q = p
  · rw [e]; exact hB
  · obtain ⟨x1, x2, x3, x4⟩ := ht q (by omega) q1
    have e2 := ho.1 q e
    rw [e2.1, e2.2.1, e2.2.2]
    exact ⟨isB_only ho (by omega) x1, x2, x3, x4⟩
theorem c_X2_solve {en : Int} (sp : shPlan w pl) (sc : shCalls w c) (ss : shSetup w o) (hC : isC w h c n F L W) (ok : okC n F L W) (hS : isS h o S) (okS : okS S) (hL : ∀ k, 0 ≤ k → k < n → L k ≤ S 98) (hen : en = 0 ∨ en = 1) (hd : pl + 3 < c ∨ c + 4 < pl) (hd2 : pl + 3 < o ∨ o + 7 < pl) : CV mX2_solve [vR pl, vR c, vR o, vI en] w h (fun h' => tabR n F L (stpS n F W (S 99) (S 100) en) (S 98) h' pl (-2) ∧ ∀ b, (b < pl ∨ pl + 3 < b) → h' b = h b) := by
  have hn := ok.1
  have hlen := okS.2.2.1
  have hpr := okS.2.2.2.1
  have hst := okS.2.2.2.2.1
  have stage : ∀ (a p due : Int) (h1 : AH), -1 ≤ p → p ≤ S 98 → 0 ≤ a → a ≤ n → (∀ k, 0 ≤ k → k < a → F k ≤ p) → (∀ k, a ≤ k → k < n → p < F k) → (a = n ∨ lst L (fun k => a ≤ k ∧ k < n) due) → tabR n F L (stpS n F W (S 99) (S 100) en) (S 98) h1 pl p → (∀ b, (b < pl ∨ pl + 3 < b) → h1 b = h b) →
      (∀ h2 : AH, tabR n F L (stpS n F W (S 99) (S 100) en) (S 98) h2 pl (p + -1) → (∀ b, (b < pl ∨ pl + 3 < b) → h2 b = h b) → XV mX2_solve 22 [some (vR pl), some (vR c), some (vR o), some (vI en), some (vI a), some (vI due), some (vI (p + (-1))), none] [] w h2 (fun h' => tabR n F L (stpS n F W (S 99) (S 100) en) (S 98) h' pl (-2) ∧ ∀ b, (b < pl ∨ pl + 3 < b) → h' b = h b)) →
      XV mX2_solve 65 [some (vR pl), some (vR c), some (vR o), some (vI en), some (vI a), some (vI due), some (vI p), none] [] w h1 (fun h' => tabR n F L (stpS n F W (S 99) (S 100) en) (S 98) h' pl (-2) ∧ ∀ b, (b < pl ∨ pl + 3 < b) → h' b = h b) := by
    intro a p due h1 p0 p1 a0 a1 q1 q2 hdue ht hf K
    have hC1 := isC_frame hC (h' := h1) (fun b b1 b2 => hf b (by omega))
    have hS1 := isS_frame hS (h' := h1) (fun b b1 b2 => hf b (by omega))
    have hc := hC1.1
    have cp := cle_r F p n.toNat
    refine r_X2_solve_65 ?_
    rw [hc.1, hS1.2.2.2.1, hS1.2.2.2.2.1]
    refine ⟨ss.1, sc.1, by omega, by omega, fun z => ?_, fun z => ⟨sp.1, (c_X2_setBest sp ⟨p0, by omega⟩).mono ?_⟩⟩
    · have an : a < n := by omega
      obtain ⟨g1, g2, g3⟩ := hC1.2 a a0 an
      have fa := (ok.2.1 a a0 an).1
      have pa := q2 a (Int.le_refl _) an
      have beh : ∀ k, (a ≤ k ∧ k < n) ↔ ((0 ≤ k ∧ k < n) ∧ p < F k) := fun k => by
        constructor
        · rintro ⟨k0, k1⟩; exact ⟨by omega, q2 k k0 k1⟩
        · rintro ⟨k0, k1⟩
          refine ⟨?_, k0.2⟩
          by_cases c : a ≤ k
          · exact c
          · have := q1 k k0.1 (by omega); omega
      have hl : lst L (fun k => (0 ≤ k ∧ k < n) ∧ p < F k) due := lst_iff beh (hdue.resolve_left (by omega))
      have dl : due ≠ -1 ∧ F a ≤ due ∧ due ≤ S 98 ∧ ∀ k, 0 ≤ k → k < n → p < F k → due ≤ L k := by
        rcases hl with ⟨-, e⟩ | ⟨⟨k, k1, k2⟩, km⟩
        · exact absurd ⟨⟨a0, an⟩, pa⟩ (e a)
        · have b1 := (ok.2.1 k k1.1.1 k1.1.2).1
          have b2 := ok.2.2 a k a0 ((beh k).mpr k1).1 k1.1.2
          have b3 := hL k k1.1.1 k1.1.2
          exact ⟨by omega, by omega, by omega, fun j j0 j1 j2 => km j ⟨⟨j0, j1⟩, j2⟩⟩
      have gr : ∀ x, F a ≤ x → x ≤ due → 0 ≤ stpS n F W (S 99) (S 100) en p x ∧ stpS n F W (S 99) (S 100) en p x ≤ 99 + 891 * (cle F x n.toNat - cle F p n.toNat) := fun x x0 x1 => stpS_r ok hpr hst.1 (by omega) (fun k k0 k1 k2 => by have := dl.2.2.2 k k0 k1 k2; omega)
      have tr : ∀ x, F a ≤ x → x ≤ due → (0 ≤ tC h1 pl x ∧ tC h1 pl x ≤ 99 * (300 - x) + 891 * (n - cle F x n.toNat)) ∧ (0 ≤ tM h1 pl x ∧ tM h1 pl x ≤ 300 - x) ∧ 0 ≤ cle F x n.toNat := fun x x0 x1 => by
        obtain ⟨-, -, x3, x4⟩ := ht x (by omega) (by omega)
        exact ⟨x3, x4, (cle_r F x n.toNat).1⟩
      have fin : ∀ h2 : AH, bst (stpS n F W (S 99) (S 100) en) (tC h1 pl) (tM h1 pl) p (F a) due (tN h2 pl p) (tC h2 pl p) (tM h2 pl p) → only h1 h2 pl p → XV mX2_solve 22 [some (vR pl), some (vR c), some (vR o), some (vI en), some (vI a), some (vI due), some (vI (p + (-1))), none] [] w h2 (fun h' => tabR n F L (stpS n F W (S 99) (S 100) en) (S 98) h' pl (-2) ∧ ∀ b, (b < pl ∨ pl + 3 < b) → h' b = h b) := by
        intro h2 hb ho
        refine K h2 (tabR_next ho ht ⟨Or.inr ⟨due, dl.1, hl, ?_⟩, fun _ => ⟨a, ⟨a0, an⟩, pa, hb.1.1⟩, ?_, ?_⟩) (fun b hb => (ho.2 b hb).trans (hf b hb))
        · refine bst_congr (fun t t0 t1 => ⟨(ho.1 t (by omega)).1, (ho.1 t (by omega)).2.1⟩) ?_
          exact skipB (BN := tN h1 pl) ok (fun t u t0 t1 t2 => stpS_tri ok hpr.1 hst.1 p0 t0 t1 t2) (fun q q0 q1 => ⟨(ht q q0 q1).1, (ht q q0 q1).2.1⟩) p0 ⟨a0, an⟩ pa (fun k k0 k1 k2 => ok.2.2 a k a0 ((beh k).mpr ⟨⟨k0, k1⟩, k2⟩).1 k1) hl dl.2.2.1 hb
        · obtain ⟨x1, x2, -⟩ := hb
          have e1 := gr _ x1.1 x1.2
          have e2 := tr _ x1.1 x1.2
          omega
        · obtain ⟨x1, x2, -⟩ := hb
          have e2 := tr _ x1.1 x1.2
          omega
      refine ⟨by omega, fun e => ⟨sp.1, ?_⟩, fun e => ⟨sc, by omega, sp.1, ?_⟩⟩
      · have eg : stpS n F W (S 99) 0 0 = stpS n F W (S 99) (S 100) en := by rw [e]; funext x y; unfold stpS; rw [if_pos rfl, if_pos rfl]
        refine (c_X2_solveCost (hi := due) sp sc hC1 ok hd p0 ⟨a0, an⟩ q1 q2 dl.2.1 (by omega) (fun x x0 x1 => ?_) (fun x x0 x1 => ?_)).mono (fun h2 q => fin h2 (by rw [← eg]; exact q.1) q.2)
        · rw [eg]; have := gr x x0 x1; have := (cle_r F x n.toNat).2; omega
        · have := tr x x0 x1; omega
      · have e1 : en = 1 := by omega
        rw [g1, if_pos ⟨a0, an⟩]
        refine (c_X2_solveEnergy (n := n) (F := F) (W := W) sp p0 pa dl.2.1 (by omega) hpr hst (fun x x0 x1 => ?_)).mono (fun h2 q => fin h2 (by rw [e1]; exact q.1) q.2)
        have := tr x x0 x1; omega
    · intro h2 e2
      subst e2
      refine K _ (tabR_next (only_set _ _ _ _ _ _) ht ⟨Or.inl ⟨fun k k0 k1 => q1 k k0 (by omega), ?_⟩, fun q => ?_, ?_, ?_⟩) (fun b hb => (setB_f _ _ _ _ _ _ hb).trans (hf b hb))
      · rw [setB_C, setB_M, setB_N, if_pos rfl, if_pos rfl, if_pos rfl]; exact ⟨rfl, rfl, rfl⟩
      · rw [setB_N, if_pos rfl] at q; exact absurd rfl q
      · rw [setB_C, if_pos rfl]; omega
      · rw [setB_M, if_pos rfl]; omega
  have outer : ∀ (d : Nat) (p a due : Int) (h1 : AH), p + 2 = d → p ≤ S 98 → 0 ≤ a → a ≤ n → (∀ k, 0 ≤ k → k < a → F k ≤ p + 1) → (∀ k, a ≤ k → k < n → p + 1 < F k) → ((a = n ∧ due = 1000000) ∨ (a < n ∧ lst L (fun k => a ≤ k ∧ k < n) due)) → tabR n F L (stpS n F W (S 99) (S 100) en) (S 98) h1 pl p → (∀ b, (b < pl ∨ pl + 3 < b) → h1 b = h b) → XV mX2_solve 22 [some (vR pl), some (vR c), some (vR o), some (vI en), some (vI a), some (vI due), some (vI p), none] [] w h1 (fun h' => tabR n F L (stpS n F W (S 99) (S 100) en) (S 98) h' pl (-2) ∧ ∀ b, (b < pl ∨ pl + 3 < b) → h' b = h b) := by
    intro d
    induction d with
    | zero =>
      intro p a due h1 hp p1 a0 a1 q1 q2 hdue ht hf
      refine r_X2_solve_22 ⟨by omega, fun z => ⟨by rw [show (-2 : Int) = p by omega]; exact ht, hf⟩, fun z => absurd z (by omega)⟩
    | succ d ih =>
      intro p a due h1 hp p1 a0 a1 q1 q2 hdue ht hf
      refine r_X2_solve_22 ⟨by omega, fun z => absurd z (by omega), fun z => ?_⟩
      have hC1 := isC_frame hC (h' := h1) (fun b b1 b2 => hf b (by omega))
      have hc := hC1.1
      have inner : ∀ (e : Nat) (a due : Int), a = e → a ≤ n → (∀ k, 0 ≤ k → k < a → F k ≤ p + 1) → (∀ k, a ≤ k → k < n → p < F k) → ((a = n ∧ due = 1000000) ∨ (a < n ∧ lst L (fun k => a ≤ k ∧ k < n) due)) → XV mX2_solve 28 [some (vR pl), some (vR c), some (vR o), some (vI en), some (vI a), some (vI due), some (vI p), none] [] w h1 (fun h' => tabR n F L (stpS n F W (S 99) (S 100) en) (S 98) h' pl (-2) ∧ ∀ b, (b < pl ∨ pl + 3 < b) → h' b = h b) := by
        intro e
        induction e with
        | zero =>
          intro a due he a1 q1 q2 hdue
          refine r_X2_solve_28 ⟨by omega, fun y => ?_, fun y => absurd y (by omega)⟩
          exact stage a p due h1 (by omega) p1 (by omega) a1 (fun k k0 k1 => by omega) q2 (hdue.imp (fun q => q.1) (fun q => q.2)) ht hf (fun h2 t2 f2 => ih (p + -1) a due h2 (by omega) (by omega) (by omega) a1 (fun k k0 k1 => by omega) (fun k k0 k1 => by have := q2 k k0 k1; omega) hdue t2 f2)
        | succ e ihe =>
          intro a due he a1 q1 q2 hdue
          obtain ⟨g1, g2, g3⟩ := hC1.2 (a - 1) (by omega) (by omega)
          obtain ⟨b1, b2⟩ := ok.2.1 (a - 1) (by omega) (by omega)
          have hdr : -1 ≤ due ∧ due ≤ 1000000 := by
            rcases hdue with q | q
            · omega
            · have := lst_r (fun k hk => by have := (ok.2.1 k (by omega) hk.2).1; omega) q.2
              omega
          refine r_X2_solve_28 ?_
          rw [show a + (-1) = a - 1 by omega, hc.1, g1, g2, if_pos ⟨by omega, by omega⟩, if_pos ⟨by omega, by omega⟩]
          refine ⟨by omega, fun y => absurd y (by omega), fun y => ⟨sc.1, sc, by omega, by omega, by omega, by omega, fun y2 => ?_, fun y2 => ⟨by omega, by omega, by omega, ?_⟩⟩⟩
          · refine stage a p due h1 (by omega) p1 (by omega) a1 (fun k k0 k1 => ?_) q2 (hdue.imp (fun q => q.1) (fun q => q.2)) ht hf (fun h2 t2 f2 => ih (p + -1) a due h2 (by omega) (by omega) (by omega) a1 (fun k k0 k1 => ?_) (fun k k0 k1 => by have := q2 k k0 k1; omega) hdue t2 f2)
            · have := ok.2.2 k (a - 1) k0 (by omega) (by omega); omega
            · have := ok.2.2 k (a - 1) k0 (by omega) (by omega); omega
          · intro z ez
            refine ihe (a - 1) z (by omega) (by omega) (fun k k0 k1 => q1 k k0 (by omega)) (fun k k0 k1 => ?_) (Or.inr ⟨by omega, ?_⟩)
            · by_cases ek : k = a - 1
              · rw [ek]; omega
              · exact q2 k (by omega) k1
            · rcases hdue with ⟨q, qd⟩ | q
              · refine Or.inr ⟨⟨a - 1, ⟨Int.le_refl _, by omega⟩, by omega⟩, fun k hk => ?_⟩
                rw [show k = a - 1 by omega]; omega
              · obtain ⟨qn, q⟩ := q
                rcases q with ⟨-, q⟩ | ⟨⟨j, j1, j2⟩, jm⟩
                · exact absurd ⟨Int.le_refl _, qn⟩ (q a)
                · by_cases cl : L (a - 1) < due
                  · refine Or.inr ⟨⟨a - 1, ⟨Int.le_refl _, by omega⟩, by omega⟩, fun k hk => ?_⟩
                    by_cases ek : k = a - 1
                    · rw [ek]; omega
                    · have := jm k ⟨by omega, hk.2⟩; omega
                  · refine Or.inr ⟨⟨j, ⟨by omega, j1.2⟩, by omega⟩, fun k hk => ?_⟩
                    by_cases ek : k = a - 1
                    · rw [ek]; omega
                    · have := jm k ⟨by omega, hk.2⟩; omega
      exact inner a.toNat a due (by omega) a1 q1 (fun k k0 k1 => by have := q2 k k0 k1; omega) hdue
  refine e_X2_solve (r_X2_solve_0 ?_)
  rw [hC.1.1, hS.2.2.1, show min (S 98) 300 = S 98 by omega]
  refine ⟨sc.1, ss.1, by omega, outer (S 98 + 2).toNat (S 98) n 1000000 h (by omega) (Int.le_refl _) hn.1 (Int.le_refl _) (fun k k0 k1 => ?_) (fun k k0 k1 => by omega) (Or.inl ⟨rfl, rfl⟩) (fun q q0 q1 => by omega) (fun b _ => rfl)⟩
  have := (ok.2.1 k k0 k1).1
  have := hL k k0 k1
  omega
end
