/-! FEWEST -/
/-- the wake ahead of the i-th -/
def pv (t : Int → Int) (i : Int) : Int := if i ≤ 0 then -1 else t (i - 1)
theorem pv_congr {t t' : Int → Int} {i : Int} (h : ∀ j, 0 ≤ j → j < i → t j = t' j) : pv t i = pv t' i := by
  unfold pv
  split
  · rfl
  · exact h _ (by omega) (by omega)
theorem okW_pv {m : Int} {t : Int → Int} (h0 : 0 ≤ m) (h : ∀ i, 0 ≤ i → i < m → pv t i < t i ∧ t i ≤ 300) : okW m t := by
  have hi : ∀ (d : Nat), ∀ j k : Int, 0 ≤ j → k = j + 1 + d → k < m → t j < t k := by
    intro d
    induction d with
    | zero =>
      intro j k h1 h2 h3
      have := (h k (by omega) h3).1
      unfold pv at this
      rw [if_neg (by omega), show k - 1 = j by omega] at this
      exact this
    | succ d ih =>
      intro j k h1 h2 h3
      have a := ih j (k - 1) h1 (by omega) (by omega)
      have b := (h k (by omega) h3).1
      unfold pv at b
      rw [if_neg (by omega)] at b
      omega
  have hge : ∀ (i : Nat), (i : Int) < m → (i : Int) ≤ t i := by
    intro i
    induction i with
    | zero =>
      intro h3
      have := (h 0 (by omega) (by omega)).1
      unfold pv at this
      rw [if_pos (by omega)] at this
      show (0 : Int) ≤ t 0
      omega
    | succ i ih =>
      intro h3
      have := ih (by omega)
      have := hi 0 (i : Int) ((i + 1 : Nat) : Int) (by omega) (by omega) h3
      omega
  refine ⟨⟨h0, ?_⟩, fun k k0 k1 => ⟨?_, (h k k0 k1).2⟩, fun j k j0 j1 k1 => hi (k - j - 1).toNat j k j0 (by omega) k1⟩
  · by_cases e : m = 0
    · omega
    · have a := hge (m - 1).toNat (by omega)
      have b := (h (m - 1) (by omega) (by omega)).2
      rw [show (((m - 1).toNat : Nat) : Int) = m - 1 by omega] at a
      omega
  · have := hge k.toNat (by omega)
    rw [show ((k.toNat : Nat) : Int) = k by omega] at this
    omega
theorem kept_pv {n m : Int} {F L t : Int → Int} (h0 : 0 ≤ m) (hF : ∀ k, 0 ≤ k → k < n → 0 ≤ F k) (h : ∀ i, 0 ≤ i → i < m → ∀ k, 0 ≤ k → k < n → pv t i < F k → t i ≤ L k) (hl : ∀ k, 0 ≤ k → k < n → F k ≤ pv t m) : kept n F L m t := by
  intro k k0 k1
  have hk := hF k k0 k1
  rcases an_ex m t (F k) h0 with ⟨e, ha⟩ | ⟨p, p0, p1, p2, p3, p4⟩
  · have := hl k k0 k1
    unfold pv at this
    split at this
    · omega
    · have := ha (m - 1) (by omega) (by omega); omega
  · rw [p2]
    refine ⟨p3, h p p0 p1 k k0 k1 ?_⟩
    unfold pv
    split
    · omega
    · exact p4 (p - 1) (by omega) (by omega)
/-- each wake is the least LATEST behind the one ahead -/
def fewP (n : Int) (F L : Int → Int) (m : Int) (t : Int → Int) : Prop := ∀ i, 0 ≤ i → i < m → t i ≠ -1 ∧ lst L (fun k => (0 ≤ k ∧ k < n) ∧ pv t i < F k) (t i)
def fewS (n : Int) (F L : Int → Int) (m : Int) (t : Int → Int) : Prop := 0 ≤ m ∧ fewP n F L m t ∧ ∀ k, 0 ≤ k → k < n → F k ≤ pv t m
theorem fewP_up {n : Int} {F L W : Int → Int} (ok : okC n F L W) {m : Int} {t : Int → Int} (hp : fewP n F L m t) : ∀ i, 0 ≤ i → i < m → pv t i < t i ∧ t i ≤ 300 := by
  intro i i0 i1
  obtain ⟨a, b⟩ := hp i i0 i1
  rcases b with b | ⟨⟨k, k1, k2⟩, b⟩
  · exact absurd b.1 a
  · have := (ok.2.1 k k1.1.1 k1.1.2).1
    omega
theorem fewS_okW {n : Int} {F L W : Int → Int} (ok : okC n F L W) {m : Int} {t : Int → Int} (hs : fewS n F L m t) : okW m t := okW_pv hs.1 (fewP_up ok hs.2.1)
theorem fewS_kept {n : Int} {F L W : Int → Int} (ok : okC n F L W) {m : Int} {t : Int → Int} (hs : fewS n F L m t) : kept n F L m t := by
  refine kept_pv hs.1 (fun k a b => (ok.2.1 k a b).1.1) (fun i i0 i1 k k0 k1 hk => ?_) hs.2.2
  obtain ⟨a, b⟩ := hs.2.1 i i0 i1
  rcases b with b | ⟨-, b⟩
  · exact absurd b.1 a
  · exact b k ⟨⟨k0, k1⟩, hk⟩
theorem fewS_one {n : Int} {F L W : Int → Int} (ok : okC n F L W) {m m' : Int} {t t' : Int → Int} (a : fewS n F L m t) (b : fewS n F L m' t') : m = m' ∧ ∀ i, 0 ≤ i → i < m → t i = t' i := by
  have hL : ∀ (x : Int) k, (0 ≤ k ∧ k < n) ∧ x < F k → 0 ≤ L k := fun x k q => by have := (ok.2.1 k q.1.1 q.1.2).1; omega
  have key : ∀ (d : Nat), (d : Int) ≤ m → (d : Int) ≤ m' → ∀ i : Int, 0 ≤ i → i < d → t i = t' i := by
    intro d
    induction d with
    | zero => intro _ _ i h1 h2; omega
    | succ d ih =>
      intro h1 h2 i i0 i1
      have pre := ih (by omega) (by omega)
      by_cases e : i < d
      · exact pre i i0 e
      · have ei : i = d := by omega
        subst ei
        have x := (a.2.1 d i0 (by omega)).2
        have y := (b.2.1 d i0 (by omega)).2
        rw [← pv_congr pre] at y
        exact lst_one (hL _) x y
  have none_more : ∀ {m m' : Int} {t t' : Int → Int}, fewS n F L m t → fewS n F L m' t' → (∀ i, 0 ≤ i → i < m → t i = t' i) → ¬ m < m' := by
    intro m m' t t' a b he hlt
    obtain ⟨x, y⟩ := b.2.1 m a.1 hlt
    rw [← pv_congr he] at y
    rcases y with y | ⟨⟨k, k1, -⟩, -⟩
    · exact x y.1
    · have := a.2.2 k k1.1.1 k1.1.2; omega
  rcases Int.lt_trichotomy m m' with q | q | q
  · exact absurd q (none_more a b (fun i i0 i1 => key m.toNat (by have := a.1; omega) (by have := a.1; omega) i i0 (by omega)))
  · exact ⟨q, fun i i0 i1 => key m.toNat (by have := a.1; omega) (by have := a.1; omega) i i0 (by omega)⟩
  · exact absurd q (none_more b a (fun i i0 i1 => (key m'.toNat (by have := b.1; omega) (by have := b.1; omega) i i0 (by omega)).symm))
section
variable {w : WS} {h : AH} {v c p n : Int} {F L W : Int → Int}
/-- what one more wake makes of the row -/
theorem addW {h1 h2 : AH} {v x : Int} (e : h2 = st (st h1 (v + 1) (h1 v 1) x) v 1 (h1 v 1 + 1)) : h2 v 1 = h1 v 1 + 1 ∧ h2 (v + 1) (h1 v 1) = x ∧ (∀ i, i ≠ h1 v 1 → h2 (v + 1) i = h1 (v + 1) i) ∧ ∀ b, b ≠ v → b ≠ v + 1 → h2 b = h1 b := by
  subst e
  refine ⟨st_same _ _ _ _, ?_, fun i hi => ?_, fun b h1 h2 => ?_⟩
  · rw [st_cell _ _ _ _ (show v + 1 ≠ v by omega), st_same]
  · rw [st_cell _ _ _ _ (show v + 1 ≠ v by omega), st_slot _ _ _ _ hi]
  · rw [st_row _ _ _ h1, st_row _ _ _ h2]
theorem isC_frame {h' : AH} (hC : isC w h c n F L W) (hf : ∀ b, c ≤ b → b ≤ c + 4 → h' b = h b) : isC w h' c n F L W := by
  obtain ⟨a, b⟩ := hC
  unfold isC
  rw [hf c (by omega) (by omega), hf (c + 1) (by omega) (by omega), hf (c + 2) (by omega) (by omega), hf (c + 3) (by omega) (by omega)]
  exact ⟨a, b⟩
theorem c_X2_makeFewest (sw : shWakes w v) (sc : shCalls w c) (hC : isC w h c n F L W) (ok : okC n F L W) (hv : h v 1 = 0) (hcap : n ≤ wl w (v + 1)) (hd : v + 1 < c ∨ c + 4 < v) : CV mX2_makeFewest [vR p, vR c, vR v] w h (fun h' => fewS n F L (h' v 1) (h' (v + 1)) ∧ h' v 1 ≤ n ∧ ∀ b, b ≠ v → b ≠ v + 1 → h' b = h b) := by
  have hn := ok.1
  have key : ∀ (d : Nat) (k x : Int) (h1 : AH), k + d = n → 1 ≤ k → (0 ≤ h1 v 1 ∧ h1 v 1 < k) → fewP n F L (h1 v 1) (h1 (v + 1)) →
      ((∃ j, (0 ≤ j ∧ j < k) ∧ pv (h1 (v + 1)) (h1 v 1) < F j ∧ L j = x) ∧ (∀ j, 0 ≤ j → j < k → pv (h1 (v + 1)) (h1 v 1) < F j → x ≤ L j ∧ F j ≤ x)) → (∀ b, b ≠ v → b ≠ v + 1 → h1 b = h b) →
      XV mX2_makeFewest 17 [none, some (vR c), some (vR v), some (vI x), some (vI k), none] [] w h1 (fun h' => fewS n F L (h' v 1) (h' (v + 1)) ∧ h' v 1 ≤ n ∧ ∀ b, b ≠ v → b ≠ v + 1 → h' b = h b) := by
    intro d
    induction d with
    | zero =>
      intro k x h1 hk k1 hm hp hx hf
      have hC1 := isC_frame hC (h' := h1) (fun b q1 q2 => hf b (by omega) (by omega))
      obtain ⟨⟨j, j0, j1, j2⟩, hx2⟩ := hx
      have jb := (ok.2.1 j j0.1 (by omega)).1
      refine r_X2_makeFewest_17 ?_
      rw [hC1.1.1]
      refine ⟨sc.1, by omega, by omega, fun q => ⟨sw.1, (c_X7_add sw ⟨hm.1, by omega⟩).mono ?_⟩, fun q => absurd q (by omega)⟩
      intro h2 e2
      obtain ⟨a1, a2, a3, a4⟩ := addW e2
      rw [a1]
      have ec : ∀ i, 0 ≤ i → i < h1 v 1 → h2 (v + 1) i = h1 (v + 1) i := fun i _ q => a3 i (by omega)
      refine ⟨⟨by omega, fun i i0 i1 => ?_, fun q q0 q1 => ?_⟩, by omega, fun b b1 b2 => (a4 b b1 b2).trans (hf b b1 b2)⟩
      · by_cases ei : i = h1 v 1
        · subst ei
          rw [a2, pv_congr ec]
          exact ⟨by omega, Or.inr ⟨⟨j, ⟨⟨j0.1, by omega⟩, j1⟩, j2⟩, fun q hq => (hx2 q hq.1.1 (by omega) hq.2).1⟩⟩
        · have := hp i i0 (by omega)
          rw [a3 i ei, pv_congr (fun j b0 b1 => ec j b0 (by omega))]
          exact this
      · unfold pv
        rw [if_neg (by omega), show h1 v 1 + 1 - 1 = h1 v 1 by omega, a2]
        by_cases c1 : pv (h1 (v + 1)) (h1 v 1) < F q
        · exact (hx2 q q0 (by omega) c1).2
        · omega
    | succ d ih =>
      intro k x h1 hk k1 hm hp hx hf
      have hC1 := isC_frame hC (h' := h1) (fun b q1 q2 => hf b (by omega) (by omega))
      obtain ⟨⟨j, j0, j1, j2⟩, hx2⟩ := id hx
      have jb := (ok.2.1 j j0.1 (by omega)).1
      obtain ⟨g1, g2, g3⟩ := hC1.2 k (by omega) (by omega)
      obtain ⟨b1, b2⟩ := ok.2.1 k (by omega) (by omega)
      have cap := hC1.1
      refine r_X2_makeFewest_17 ?_
      rw [hC1.1.1, g1, g2, if_pos ⟨by omega, by omega⟩, if_pos ⟨by omega, by omega⟩]
      refine ⟨sc.1, by omega, by omega, fun q => absurd q (by omega), fun q => ⟨sc, by omega, ?_⟩⟩
      rintro y rfl
      refine ⟨by omega, by omega, fun q2 => ⟨by omega, ?_⟩, fun q2 => ⟨sw.1, (c_X7_add sw ⟨hm.1, by omega⟩).mono ?_⟩⟩
      · refine ih (k + 1) _ h1 (by omega) (by omega) (by omega) hp ⟨?_, ?_⟩ hf
        · have mono := ok.2.2 j k (by omega) (by omega) (by omega)
          by_cases c1 : L k < x
          · exact ⟨k, ⟨by omega, by omega⟩, by omega, by omega⟩
          · exact ⟨j, ⟨by omega, by omega⟩, j1, by omega⟩
        · intro i i0 i1 hi
          by_cases ei : i = k
          · rw [ei]; omega
          · have := hx2 i i0 (by omega) hi
            have mono := ok.2.2 i k i0 (by omega) (by omega)
            omega
      · intro h2 e2
        obtain ⟨a1, a2, a3, a4⟩ := addW e2
        have ec : ∀ i, 0 ≤ i → i < h1 v 1 → h2 (v + 1) i = h1 (v + 1) i := fun i _ q => a3 i (by omega)
        have ep : pv (h2 (v + 1)) (h1 v 1 + 1) = x := by
          unfold pv
          rw [if_neg (by omega), show h1 v 1 + 1 - 1 = h1 v 1 by omega, a2]
        refine ih (k + 1) _ h2 (by omega) (by omega) (by omega) ?_ ?_ (fun b b1 b2 => (a4 b b1 b2).trans (hf b b1 b2))
        · rw [a1]
          intro i i0 i1
          by_cases ei : i = h1 v 1
          · subst ei
            rw [a2, pv_congr ec]
            refine ⟨by omega, Or.inr ⟨⟨j, ⟨⟨j0.1, by omega⟩, j1⟩, j2⟩, fun q hq => ?_⟩⟩
            by_cases cq : q < k
            · exact (hx2 q hq.1.1 cq hq.2).1
            · have m1 := ok.2.2 k q (by omega) (by omega) hq.1.2
              have m2 := (ok.2.1 q hq.1.1 hq.1.2).1
              omega
          · have := hp i i0 (by omega)
            rw [a3 i ei, pv_congr (fun j b0 b1 => ec j b0 (by omega))]
            exact this
        · rw [a1, ep]
          refine ⟨⟨k, ⟨by omega, by omega⟩, by omega, rfl⟩, fun i i0 i1 hi => ?_⟩
          by_cases ei : i = k
          · rw [ei]; omega
          · by_cases c1 : pv (h1 (v + 1)) (h1 v 1) < F i
            · have := hx2 i i0 (by omega) c1; omega
            · omega
  refine e_X2_makeFewest (r_X2_makeFewest_0 ?_)
  have hc := hC.1
  rw [hC.1.1]
  refine ⟨sc.1, by omega, fun q => ⟨sc, by omega, ?_⟩, fun q => ⟨⟨by omega, fun i i0 i1 => by omega, fun k k0 k1 => by omega⟩, by omega, fun b _ _ => rfl⟩⟩
  obtain ⟨g1, g2, g3⟩ := hC.2 0 (by omega) (by omega)
  obtain ⟨b1, b2⟩ := ok.2.1 0 (by omega) (by omega)
  rw [g2, if_pos ⟨by omega, by omega⟩]
  rintro y rfl
  refine key (n - 1).toNat 1 _ h (by omega) (by omega) (by omega) (fun i i0 i1 => by omega) ?_ (fun b _ _ => rfl)
  rw [hv]
  have e : pv (h (v + 1)) 0 = -1 := by unfold pv; rw [if_pos (by omega)]
  rw [e]
  exact ⟨⟨0, by omega, by omega, rfl⟩, fun i i0 i1 hi => by rw [show i = 0 by omega]; omega⟩
end
