def wW (W : Int → Int) : Nat → Int → Int
  | 0, _ => 0
  | m + 1, i => W i + wW W m (i + 1)
theorem wW_app (W : Int → Int) : ∀ (m : Nat) (i : Int), wW W (m + 1) i = wW W m i + W (i + m) := by
  intro m
  induction m with
  | zero => intro i; simp [wW]
  | succ m ih =>
    intro i
    rw [wW, ih (i + 1), wW, show i + 1 + (m : Int) = i + ((m + 1 : Nat) : Int) by omega]
    omega
theorem wsum_up (F W : Int → Int) (u : Int) : ∀ (m : Nat) (i : Int), wsum F W (u + 1) m i = wsum F W u m i + wW W m i := by
  intro m
  induction m with
  | zero => intro i; rfl
  | succ m ih =>
    intro i
    rw [wsum, wsum, wW, ih (i + 1), show W i * (u + 1 - F i) = W i * (u - F i) + W i by rw [show u + 1 - F i = u - F i + 1 by omega, Int.mul_add, Int.mul_one]]
    omega
theorem wtB_eq {F W : Int → Int} {last u : Int} {a b : Nat} (hab : a ≤ b) (h1 : ∀ k : Nat, k < a → F k ≤ last) (h2 : ∀ k : Nat, a ≤ k → k < b → last < F k ∧ F k ≤ u) : ∀ (d : Nat), (∀ k : Nat, b ≤ k → k < b + d → u < F k) → wtB F W last u (b + d) = wsum F W u (b - a) a := by
  have s1 : ∀ i : Nat, i ≤ a → wtB F W last u i = 0 := by
    intro i
    induction i with
    | zero => intro _; rfl
    | succ i ih => intro hi; rw [wtB, ih (by omega), if_neg (by have := h1 i (by omega); omega)]; rfl
  have s2 : ∀ j : Nat, a + j ≤ b → wtB F W last u (a + j) = wsum F W u j a := by
    intro j
    induction j with
    | zero => intro _; rw [Nat.add_zero, s1 a (Nat.le_refl _)]; rfl
    | succ j ih =>
      intro hj
      rw [show a + (j + 1) = a + j + 1 by omega, wtB, ih (by omega), if_pos (h2 (a + j) (by omega) (by omega)), wsum_app, show ((a + j : Nat) : Int) = (a : Int) + (j : Int) by omega]
  intro d
  induction d with
  | zero =>
    intro _
    have := s2 (b - a) (by omega)
    rw [show a + (b - a) = b by omega] at this
    exact this
  | succ d ih =>
    intro h3
    rw [show b + (d + 1) = b + d + 1 by omega, wtB, ih (fun k a b => h3 k a (by omega)), if_neg (by have := h3 (b + d) (by omega) (by omega); omega)]
    omega
theorem cle_r (F : Int → Int) (p : Int) : ∀ i : Nat, 0 ≤ cle F p i ∧ cle F p i ≤ i := by
  intro i
  induction i with
  | zero => exact ⟨Int.le_refl _, Int.le_refl _⟩
  | succ i ih => rw [cle]; split <;> omega
theorem wtB_r {n : Int} {F L W : Int → Int} (ok : okC n F L W) {p t : Int} (hpt : p ≤ t) (hL : ∀ k, 0 ≤ k → k < n → p < F k → t ≤ L k) : ∀ i : Nat, (i : Int) ≤ n → 0 ≤ wtB F W p t i ∧ wtB F W p t i ≤ 891 * (cle F t i - cle F p i) := by
  intro i
  induction i with
  | zero => intro _; exact ⟨Int.le_refl _, Int.le_refl _⟩
  | succ i ih =>
    intro hi
    have := ih (by omega)
    obtain ⟨b1, b2⟩ := ok.2.1 i (by omega) (by omega)
    rw [wtB, cle, cle]
    by_cases c : p < F i ∧ F i ≤ t
    · have l := hL i (by omega) (by omega) c.1
      have m1 := mul_r (b := 99) b2 (show -99 ≤ t - F i ∧ t - F i ≤ 99 by omega)
      have m2 := Int.mul_nonneg b2.1 (show 0 ≤ t - F i by omega)
      rw [if_pos c, if_pos c.2, if_neg (by omega)]
      omega
    · rw [if_neg c]
      split <;> split <;> omega
section
variable {w : WS} {h : AH} {pl p v c o n : Int} {F L W S : Int → Int}
theorem c_X2_solveCost {a hi P : Int} (sp : shPlan w pl) (sc : shCalls w c) (hC : isC w h c n F L W) (ok : okC n F L W) (hd : pl + 3 < c ∨ c + 4 < pl) (hp : -1 ≤ p) (ha : 0 ≤ a ∧ a < n) (h1a : ∀ k, 0 ≤ k → k < a → F k ≤ p) (h2a : ∀ k, a ≤ k → k < n → p < F k) (hlh : F a ≤ hi) (hhi : hi ≤ 300) (hg : ∀ x, F a ≤ x → x ≤ hi → 0 ≤ stpS n F W P 0 0 p x ∧ stpS n F W P 0 0 p x ≤ 400000) (hb : ∀ x, F a ≤ x → x ≤ hi → (0 ≤ tC h pl x ∧ tC h pl x ≤ 400000) ∧ (0 ≤ tM h pl x ∧ tM h pl x ≤ 400)) : CV mX2_solveCost [vR pl, vI p, vR c, vI a, vI hi, vI P] w h (fun h' => bst (stpS n F W P 0 0) (tC h pl) (tM h pl) p (F a) hi (tN h' pl p) (tC h' pl p) (tM h' pl p) ∧ only h h' pl p) := by
  have hn := ok.1
  have plo : p < F a := h2a a (Int.le_refl _) ha.2
  have a0 := (ok.2.1 a ha.1 ha.2).1
  have key : ∀ (d : Nat) (t k wa wb : Int) (h1 : AH), t + d = hi + 1 → F a ≤ t → a ≤ k → k ≤ n → (∀ j, a ≤ j → j < k → F j < t) → (∀ j, k ≤ j → j < n → t ≤ F j) → wa = wW W (k - a).toNat a → wb = wsum F W (t - 1) (k - a).toNat a → scan (stpS n F W P 0 0) h1 pl p (F a) t → only h h1 pl p → XV mX2_solveCost 26 [some (vR pl), some (vI p), some (vR c), none, some (vI hi), some (vI P), some (vI k), some (vI wa), some (vI wb), some (vI t)] [] w h1 (fun h' => bst (stpS n F W P 0 0) (tC h pl) (tM h pl) p (F a) hi (tN h' pl p) (tC h' pl p) (tM h' pl p) ∧ only h h' pl p) := by
    intro d
    induction d with
    | zero =>
      intro t k wa wb h1 ht htl hk1 hk2 q1 q2 ew eb hs ho
      refine r_X2_solveCost_26 ⟨by omega, by omega, fun q => ⟨?_, ho⟩, fun q => absurd q (by omega)⟩
      rcases hs with hs | ⟨-, s1, s2, s3⟩
      · omega
      · rw [show t - 1 = hi by omega] at s1 s3
        refine ⟨s1, ?_, fun x x0 x1 => ?_⟩
        · have := ho.1 _ (show tN h1 pl p ≠ p by omega)
          rw [← this.1, ← this.2.1]; exact s2
        · have := ho.1 x (by omega)
          rw [← this.1, ← this.2.1]; exact s3 x x0 x1
    | succ d ih =>
      intro t k wa wb h1 ht htl hk1 hk2 q1 q2 ew eb hs ho
      refine r_X2_solveCost_26 ⟨by omega, by omega, fun q => absurd q (by omega), fun q => ⟨fun q3 => absurd q3 (by omega), fun q3 => ?_⟩⟩
      have hC1 := isC_frame hC (h' := h1) (fun b b1 b2 => ho.2 b (by omega))
      have hc := hC1.1
      have hb1 : ∀ x, F a ≤ x → x ≤ hi → (0 ≤ tC h1 pl x ∧ tC h1 pl x ≤ 400000) ∧ (0 ≤ tM h1 pl x ∧ tM h1 pl x ≤ 400) := fun x x0 x1 => by
        have := ho.1 x (by omega); rw [this.1, this.2.1]; exact hb x x0 x1
      have hbt := hb1 t htl (by omega)
      have hgt := hg t htl (by omega)
      have hr := scan_r (hi := hi) hs (by omega) (fun x x0 x1 => by have := hg x x0 x1; have := hb1 x x0 x1; omega)
      have eb2 : wb + wa = wsum F W t (k - a).toNat a := by
        rw [eb, ew, ← wsum_up, show t - 1 + 1 = t by omega]
      have inner : ∀ (e : Nat) (k wa : Int), k + e = n → a ≤ k → (∀ j, a ≤ j → j < k → F j ≤ t) → (∀ j, k ≤ j → j < n → t ≤ F j) → wa = wW W (k - a).toNat a → ∀ wb, wb = wsum F W t (k - a).toNat a → XV mX2_solveCost 48 [some (vR pl), some (vI p), some (vR c), none, some (vI hi), some (vI P), some (vI k), some (vI wa), some (vI wb), some (vI t)] [] w h1 (fun h' => bst (stpS n F W P 0 0) (tC h pl) (tM h pl) p (F a) hi (tN h' pl p) (tC h' pl p) (tM h' pl p) ∧ only h h' pl p) := by
        intro e
        induction e with
        | zero =>
          intro k wa hk1 hk2 q1 q2 ew wb eb
          refine r_X2_solveCost_48 ?_
          rw [hc.1]
          refine ⟨sc.1, by omega, by omega, fun y => ⟨sp.1, ?_⟩, fun y => absurd y (by omega)⟩
          have es : P + wb = stpS n F W P 0 0 p t := by
            unfold stpS
            rw [if_pos rfl, eb]
            have := wtB_eq (F := F) (W := W) (last := p) (u := t) (a := a.toNat) (b := k.toNat) (by omega) (fun j hj => h1a j (by omega) (by omega)) (fun j j0 j1 => ⟨h2a j (by omega) (by omega), q1 j (by omega) (by omega)⟩) (n.toNat - k.toNat) (fun j j0 j1 => by omega)
            rw [show k.toNat + (n.toNat - k.toNat) = n.toNat by omega, show k.toNat - a.toNat = (k - a).toNat by omega, show ((a.toNat : Nat) : Int) = a by omega] at this
            rw [this]
          refine (c_X2_tryNext sp ⟨hp, by omega⟩ ⟨by omega, by omega⟩ (by omega) (by omega) hr.1 hr.2).mono ?_
          intro h2 e2
          obtain ⟨n1, n2⟩ := scan_more hs plo htl es (by omega) e2
          exact ih (t + 1) k wa wb h2 (by omega) (by omega) hk2 (by omega) (fun j j0 j1 => by have := q1 j j0 j1; omega) (fun j j0 j1 => by omega) ew (by rw [show t + 1 - 1 = t by omega]; exact eb) n1 (only_tr ho n2)
        | succ e ihe =>
          intro k wa hk1 hk2 q1 q2 ew wb eb
          obtain ⟨g1, g2, g3⟩ := hC1.2 k (by omega) (by omega)
          obtain ⟨b1, b2⟩ := ok.2.1 k (by omega) (by omega)
          refine r_X2_solveCost_48 ?_
          rw [hc.1, g1, g3, if_pos ⟨by omega, by omega⟩, if_pos ⟨by omega, by omega⟩]
          refine ⟨sc.1, by omega, by omega, fun y => absurd y (by omega), fun y => ⟨sc, by omega, by omega, by omega, fun y2 => ⟨sp.1, ?_⟩, fun y2 => ?_⟩⟩
          · have q5 : ∀ j, k ≤ j → j < n → t < F j := fun j j0 j1 => by have := ok.2.2 k j (by omega) j0 j1; have := q2 k (Int.le_refl _) (by omega); omega
            have es : P + wb = stpS n F W P 0 0 p t := by
              unfold stpS
              rw [if_pos rfl, eb]
              have := wtB_eq (F := F) (W := W) (last := p) (u := t) (a := a.toNat) (b := k.toNat) (by omega) (fun j hj => h1a j (by omega) (by omega)) (fun j j0 j1 => ⟨h2a j (by omega) (by omega), q1 j (by omega) (by omega)⟩) (n.toNat - k.toNat) (fun j j0 j1 => q5 j (by omega) (by omega))
              rw [show k.toNat + (n.toNat - k.toNat) = n.toNat by omega, show k.toNat - a.toNat = (k - a).toNat by omega, show ((a.toNat : Nat) : Int) = a by omega] at this
              rw [this]
            refine (c_X2_tryNext sp ⟨hp, by omega⟩ ⟨by omega, by omega⟩ (by omega) (by omega) hr.1 hr.2).mono ?_
            intro h2 e2
            obtain ⟨n1, n2⟩ := scan_more hs plo htl es (by omega) e2
            exact ih (t + 1) k wa wb h2 (by omega) (by omega) hk2 (by omega) (fun j j0 j1 => by have := q1 j j0 j1; omega) (fun j j0 j1 => by have := q5 j j0 j1; omega) ew (by rw [show t + 1 - 1 = t by omega]; exact eb) n1 (only_tr ho n2)
          · intro z ez
            have ek : (k + 1 - a).toNat = (k - a).toNat + 1 := by omega
            have ei : a + (((k - a).toNat : Nat) : Int) = k := by omega
            refine ihe (k + 1) z (by omega) (by omega) (fun j j0 j1 => ?_) (fun j j0 j1 => q2 j (by omega) j1) (by rw [ez, ew, ek, wW_app, ei]) wb ?_
            · by_cases ej : j = k
              · rw [ej]; omega
              · exact q1 j j0 (by omega)
            · rw [ek, wsum_app, ei, y2, eb]
              simp
      exact inner (n - k).toNat k wa (by omega) hk1 (fun j j0 j1 => by have := q1 j j0 j1; omega) q2 ew _ eb2
  refine e_X2_solveCost (r_X2_solveCost_0 ⟨sp.1, (c_X2_setBest sp ⟨hp, by omega⟩).mono ?_⟩)
  rintro h0 e0
  subst e0
  have hC1 := isC_frame hC (h' := setB h pl p 1000000 1000000 (-1)) (fun b b1 b2 => setB_f _ _ _ _ _ _ (by omega))
  have hc := hC1.1
  obtain ⟨g1, g2, g3⟩ := hC1.2 a ha.1 ha.2
  rw [hc.1, g1, if_pos ⟨ha.1, ha.2⟩]
  refine ⟨sc.1, sc, by omega, by omega, ?_⟩
  rintro y rfl
  refine key (hi + 1 - F a).toNat (F a) a 0 0 _ (by omega) (Int.le_refl _) (Int.le_refl _) (by omega) (fun j j0 j1 => by omega) (fun j j0 j1 => ok.2.2 a j ha.1 j0 j1) ?_ ?_ (scan_0 rfl rfl) (only_set _ _ _ _ _ _)
  · rw [Int.sub_self]; rfl
  · rw [Int.sub_self]; rfl
end
