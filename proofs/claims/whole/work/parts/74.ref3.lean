section
variable {w : WS} {h : AH} {S F L W : Int → Int} {n p : Int}
theorem c_X9_isKind {k : Int} (sA : shA w) (hk : inR k) (h6 : 0 ≤ h 66 96 ∧ h 66 96 ≤ 8) : CI mX9_isKind [vR 65, vI k] w h (fun x h' => x = (if 0 ≤ k ∧ k < h 66 96 then 1 else 0) ∧ h' = h) := by
  refine e_X9_isKind (r_X9_isKind_0 sA ⟨hk, by omega, ?_, rfl⟩)
  by_cases c : 0 ≤ k ∧ k < h 66 96
  · rw [if_pos c, if_pos (by omega)]
  · rw [if_neg c, if_neg (by omega)]
theorem c_X9_slack {k : Int} (sA : shA w) (A : isAll h S) (ok : okS S) (hk : 0 ≤ k ∧ k < S 96) : CI mX9_slack [vR 65, vI k] w h (fun x h' => x = slk S k ∧ h' = h) := by
  have k96 := ok.1
  have nr := near_r ok 8 8 k (Or.inr hk)
  refine e_X9_slack (r_X9_slack_0 sA ((c_X9_nearest sA A ok hk (Or.inl rfl)).eq ⟨by omega, fun c => (c_X9_nearest sA A ok hk (Or.inl rfl)).eq ⟨by omega, by omega, ?_, rfl⟩, fun c => ⟨?_, rfl⟩⟩))
  · rw [A _ (by omega) (by omega), slk, if_neg c]
  · rw [slk, if_pos c]
theorem c_X9_weight {k : Int} (sA : shA w) (A : isAll h S) (ok : okS S) (hk : 0 ≤ k ∧ k < S 96) : CI mX9_weight [vR 65, vI k] w h (fun x h' => x = wgt S k ∧ h' = h) := by
  have k96 := ok.1
  have nr := near_r ok 16 8 k (Or.inr hk)
  refine e_X9_weight (r_X9_weight_0 sA ((c_X9_nearest sA A ok hk (Or.inr rfl)).eq ⟨by omega, fun c => (c_X9_nearest sA A ok hk (Or.inr rfl)).eq ⟨by omega, by omega, ?_, rfl⟩, fun c => ⟨?_, rfl⟩⟩))
  · rw [A _ (by omega) (by omega), wgt, if_neg c]
  · rw [wgt, if_pos c]
/-- only the row of wakes has changed -/
def fV (h h' : AH) : Prop := (∀ b, b ≠ 65 → b ≠ 73 → h' b = h b) ∧ ∀ i, i ≠ 12 → h' 65 i = h 65 i
theorem fV_tr {h1 h2 : AH} (a : fV h h1) (b : fV h1 h2) : fV h h2 := ⟨fun x x1 x2 => (b.1 x x1 x2).trans (a.1 x x1 x2), fun i hi => (b.2 i hi).trans (a.2 i hi)⟩
theorem fV_0 {v : Int} : fV h (st h 65 12 v) := ⟨fun b b1 _ => st_row _ _ _ b1, fun i hi => st_slot _ _ _ _ hi⟩
theorem fV_kM {h' : AH} (a : fV h h') : kM h h' := ⟨fun b hb => a.1 b (by omega) (by omega), fun i hi => a.2 i (by omega)⟩
theorem isR_f {h' : AH} (R : isR h n F L W) (e1 : h' 65 10 = h 65 10) (e : ∀ b, 69 ≤ b → b ≤ 71 → h' b = h b) : isR h' n F L W := by
  unfold isR
  rw [e1, e 69 (by decide) (by decide), e 70 (by decide) (by decide), e 71 (by decide) (by decide)]
  exact R
theorem fV_R {h' : AH} (a : fV h h') (R : isR h n F L W) : isR h' n F L W := isR_f R (a.2 10 (by decide)) (fun b b1 b2 => a.1 b (by omega) (by omega))
theorem fV_all {h' : AH} (a : fV h h') (A : isAll h S) : isAll h' S := fun j j0 j1 => by rw [a.1 66 (by decide) (by decide)]; exact A j j0 j1
theorem c_X9_laysFewest (sA : shA w) (R : isR h n F L W) (ok : okC n F L W) : CV mX9_laysFewest [vR 65] w h (fun h' => fewS n F L (h' 65 12) (h' 73) ∧ fV h h') := by
  have hb : ∀ {h1 : AH} {x : Int}, lst L (fun k => (0 ≤ k ∧ k < n) ∧ pv (h1 73) (h1 65 12) < F k) x → x = -1 ∨ (pv (h1 73) (h1 65 12) < x ∧ 0 ≤ x ∧ x ≤ 300) := by
    intro h1 x hx
    rcases hx with hx | ⟨⟨k, k1, k2⟩, -⟩
    · exact Or.inl hx.1
    · have := (ok.2.1 k k1.1.1 k1.1.2).1
      omega
  have key : ∀ (d : Nat) (x : Int) (h1 : AH), (x = -1 ∨ 301 ≤ x + d) → 0 ≤ h1 65 12 → fewP n F L (h1 65 12) (h1 73) → lst L (fun k => (0 ≤ k ∧ k < n) ∧ pv (h1 73) (h1 65 12) < F k) x → fV h h1 → XV mX9_laysFewest 11 [some (vR 65), some (vI x)] [] w h1 (fun h' => fewS n F L (h' 65 12) (h' 73) ∧ fV h h') := by
    intro d
    have out : ∀ (h1 : AH), 0 ≤ h1 65 12 → fewP n F L (h1 65 12) (h1 73) → lst L (fun k => (0 ≤ k ∧ k < n) ∧ pv (h1 73) (h1 65 12) < F k) (-1) → fewS n F L (h1 65 12) (h1 73) := by
      intro h1 m0 hp hx
      refine ⟨m0, hp, fun k k0 k1 => ?_⟩
      rcases hx with hx | ⟨⟨j, j1, j2⟩, -⟩
      · have := hx.2 k
        apply Decidable.byContradiction
        intro c
        exact this ⟨⟨k0, k1⟩, by omega⟩
      · have := (ok.2.1 j j1.1.1 j1.1.2).1
        omega
    induction d with
    | zero =>
      intro x h1 hx m0 hp hl hf
      have b := hb hl
      have e : x = -1 := by omega
      refine r_X9_laysFewest_11 sA ⟨by omega, fun _ => ⟨out h1 m0 hp (e ▸ hl), hf⟩, fun c => absurd e c⟩
    | succ d ih =>
      intro x h1 hx m0 hp hl hf
      have b := hb hl
      refine r_X9_laysFewest_11 sA ⟨by omega, fun e => ⟨out h1 m0 hp (e ▸ hl), hf⟩, fun c => ?_⟩
      have m1 := (okW_pv m0 (fewP_up ok hp)).1
      refine (c_X9_wakesAt sA (by omega)).mono ?_
      intro h2 e2
      obtain ⟨a1, a2, a3, a4, a5⟩ := addV e2
      have f2 : fV h h2 := fV_tr hf ⟨a4, a5⟩
      have ec : ∀ i, 0 ≤ i → i < h1 65 12 → h2 73 i = h1 73 i := fun i _ q => a3 i (by omega)
      have ep : pv (h2 73) (h2 65 12) = x := by
        unfold pv
        rw [a1, if_neg (by omega), show h1 65 12 + 1 - 1 = h1 65 12 by omega, a2]
      refine (c_X9_leastBehind sA (fV_R f2 R) ok (by omega)).mono ?_
      rintro y h3 ⟨q1, rfl⟩
      have q2 : lst L (fun k => (0 ≤ k ∧ k < n) ∧ pv (h3 73) (h3 65 12) < F k) y := by rw [ep]; exact q1
      have b2 := hb q2
      refine ih y h3 (by omega) (by omega) ?_ q2 f2
      rw [a1]
      intro i i0 i1
      by_cases ei : i = h1 65 12
      · subst ei
        rw [a2, pv_congr ec]
        exact ⟨c, hl⟩
      · have := hp i i0 (by omega)
        rw [a3 i ei, pv_congr (fun j b0 b1 => ec j b0 (by omega))]
        exact this
  refine e_X9_laysFewest (r_X9_laysFewest_0 sA ?_)
  intro h1 e1
  have f1 : fV h h1 := by rw [e1]; exact fV_0
  have z : h1 65 12 = 0 := by rw [e1, st_same]
  refine (c_X9_leastBehind sA (fV_R f1 R) ok (by decide)).mono ?_
  rintro x h3 ⟨q1, rfl⟩
  have ep : pv (h3 73) (h3 65 12) = -1 := by unfold pv; rw [if_pos (by omega)]
  have q2 : lst L (fun k => (0 ≤ k ∧ k < n) ∧ pv (h3 73) (h3 65 12) < F k) x := by rw [ep]; exact q1
  have b2 := hb q2
  exact key 301 x h3 (by omega) (by omega) (fun i i0 i1 => by omega) q2 f1
theorem c_X9_laysLive {r : Int} (sA : shA w) (A : isAll h S) (okS : okS S) (R : isR h n F L W) (ok : okC n F L W) (hr : inR r) : CV mX9_laysLive [vR 65, vI r] w h (fun h' => liveS n F L W r (S 99) (S 98) (h' 65 12) (h' 73) ∧ fV h h') := by
  have l3 := okS.2.2.1
  have l4 := okS.2.2.2.1
  have key : ∀ (d : Nat) (u la : Int) (h1 : AH), u + d = S 98 + 1 → 0 ≤ u → 0 ≤ h1 65 12 → liveP n F L W r (S 99) (S 98) (h1 65 12) (h1 73) → la = pv (h1 73) (h1 65 12) → (-1 ≤ la ∧ la < u) → (∀ x, la < x → x < u → ¬ wantU n F L W r (S 99) la x) → fV h h1 → XV mX9_laysLive 9 [some (vR 65), some (vI r), some (vI la), some (vI u)] [] w h1 (fun h' => liveS n F L W r (S 99) (S 98) (h' 65 12) (h' 73) ∧ fV h h') := by
    intro d
    induction d with
    | zero =>
      intro u la h1 hu u0 m0 hp el hl hno hf
      refine r_X9_laysLive_9 sA ?_
      rw [fV_all hf A 98 (by omega) (by omega)]
      refine ⟨by omega, by omega, fun _ => ⟨⟨m0, hp, fun x x0 x1 => ?_⟩, hf⟩, fun c => absurd c (by omega)⟩
      rw [← el] at x0 ⊢
      exact hno x x0 (by omega)
    | succ d ih =>
      intro u la h1 hu u0 m0 hp el hl hno hf
      refine r_X9_laysLive_9 sA ?_
      have A1 := fV_all hf A
      rw [A1 98 (by omega) (by omega)]
      refine ⟨by omega, by omega, fun c => absurd c (by omega), fun _ => ?_⟩
      refine (c_X9_wakesBy (p := S 99) sA (fV_R hf R) ok ⟨A1 99 (by omega) (by omega), by omega, by omega⟩ hr (by omega) (by omega)).mono ?_
      rintro x h3 ⟨q, rfl⟩
      have m1 := (okW_pv (m := h3 65 12) (t := h3 73) m0 (fun i i0 i1 => by have := (hp i i0 i1).1; omega)).1
      rcases q with ⟨q1, q2⟩ | ⟨q1, q2⟩
      · refine ⟨by omega, fun _ => (c_X9_wakesAt sA (by omega)).mono ?_, fun c => absurd c (by omega)⟩
        intro h6 e6
        obtain ⟨a1, a2, a3, a4, a5⟩ := addV e6
        have f6 : fV h h6 := fV_tr hf ⟨a4, a5⟩
        have ec : ∀ i, 0 ≤ i → i < h3 65 12 → h6 73 i = h3 73 i := fun i _ q => a3 i (by omega)
        have ep : pv (h6 73) (h6 65 12) = u := by
          unfold pv
          rw [a1, if_neg (by omega), show h3 65 12 + 1 - 1 = h3 65 12 by omega, a2]
        refine ih (u + 1) u h6 (by omega) (by omega) (by omega) ?_ ep.symm (by omega) (fun x x0 x1 => by omega) f6
        rw [a1]
        intro i i0 i1
        by_cases ei : i = h3 65 12
        · subst ei
          rw [a2, pv_congr ec, ← el]
          exact ⟨⟨by omega, by omega, q2⟩, hno⟩
        · have := hp i i0 (by omega)
          rw [a3 i ei, pv_congr (fun j b0 b1 => ec j b0 (by omega))]
          exact this
      · refine ⟨by omega, fun c => absurd q1 c, fun _ => ih (u + 1) la h3 (by omega) (by omega) m0 hp el (by omega) (fun x x0 x1 => ?_) hf⟩
        by_cases e : x = u
        · rw [e]; exact q2
        · exact hno x x0 (by omega)
  refine e_X9_laysLive (r_X9_laysLive_0 sA ?_)
  intro h1 e1
  have f1 : fV h h1 := by rw [e1]; exact fV_0
  have z : h1 65 12 = 0 := by rw [e1, st_same]
  exact key (S 98 + 1).toNat 0 (-1) h1 (by omega) (by omega) (by omega) (fun i i0 i1 => by omega) (by unfold pv; rw [if_pos (by omega)]) (by omega) (fun x x0 x1 => by omega) f1
/-! its tables: costs 74, wakes 75, nexts 76 -/
def tabM (n : Int) (F L : Int → Int) (g : Int → Int → Int) (len : Int) (h : AH) (p : Int) : Prop := ∀ q, p < q → q ≤ len → isB n F L g (tC h 73) (tM h 73) (tN h 73) q ∧ (0 ≤ tC h 73 q ∧ tC h 73 q ≤ 99 * (300 - q) + 891 * (n - cle F q n.toNat)) ∧ (0 ≤ tM h 73 q ∧ tM h 73 q ≤ 300 - q)
theorem tabM_next {g : Int → Int → Int} {len : Int} {h h' : AH} (ho : only h h' 73 p) (ht : tabM n F L g len h p) (hB : isB n F L g (tC h' 73) (tM h' 73) (tN h' 73) p ∧ (0 ≤ tC h' 73 p ∧ tC h' 73 p ≤ 99 * (300 - p) + 891 * (n - cle F p n.toNat)) ∧ (0 ≤ tM h' 73 p ∧ tM h' 73 p ≤ 300 - p)) : tabM n F L g len h' (p + -1) := by
  intro q q0 q1
  by_cases e : q = p
  · rw [e]; exact hB
  · obtain ⟨x1, x3, x4⟩ := ht q (by omega) q1
    have e2 := ho.1 q e
    rw [e2.1, e2.2.1]
    exact ⟨isB_only ho (by omega) x1, x3, x4⟩
def scanM (g : Int → Int → Int) (h : AH) (p t : Int) : Prop := (t = p + 1 ∧ tC h 73 p = 1000000000) ∨ (p + 1 < t ∧ bst g (tC h 73) (tM h 73) p (p + 1) (t - 1) (tN h 73 p) (tC h 73 p) (tM h 73 p))
theorem scanM_take {g : Int → Int → Int} {t s m : Int} {h1 h2 : AH} (hs : scanM g h1 p t) (hlt : p + 1 ≤ t) (es : s = g p t + tC h1 73 t) (em : m = 1 + tM h1 73 t) (c : tC h1 73 p = 1000000000 ∨ lexlt s m (tC h1 73 p) (tM h1 73 p)) (e : h2 = setB h1 73 p s m t) (hfar : p + 1 < t → tC h1 73 p < 1000000000) : scanM g h2 p (t + 1) ∧ only h1 h2 73 p := by
  subst e
  refine ⟨Or.inr ⟨by omega, ?_⟩, only_set _ _ _ _ _ _⟩
  have oC : ∀ q, q ≠ p → tC (setB h1 73 p s m t) 73 q = tC h1 73 q := fun q hq => by rw [setB_C, if_neg hq]
  have oM : ∀ q, q ≠ p → tM (setB h1 73 p s m t) 73 q = tM h1 73 q := fun q hq => by rw [setB_M, if_neg hq]
  rw [setB_C, setB_M, setB_N, if_pos rfl, if_pos rfl, if_pos rfl]
  refine ⟨⟨hlt, by omega⟩, ⟨by rw [oC t (by omega)]; exact es, by rw [oM t (by omega)]; exact em⟩, fun x x0 x1 => ?_⟩
  rw [oC x (by omega), oM x (by omega)]
  rcases hs with ⟨hs, -⟩ | ⟨hs, -, -, hs2⟩
  · have ex : x = t := by omega
    rw [ex, ← es, ← em]
    exact ⟨Or.inr ⟨rfl, Int.le_refl _⟩, fun q => absurd q (by omega)⟩
  · by_cases ex : x = t
    · rw [ex, ← es, ← em]
      exact ⟨Or.inr ⟨rfl, Int.le_refl _⟩, fun q => absurd q (by omega)⟩
    · have := (hs2 x x0 (by omega)).1
      have := hfar hs
      exact ⟨by omega, fun _ => by omega⟩
theorem scanM_keep {g : Int → Int → Int} {t s m : Int} {h1 : AH} (hs : scanM g h1 p t) (es : s = g p t + tC h1 73 t) (em : m = 1 + tM h1 73 t) (c : ¬ lexlt s m (tC h1 73 p) (tM h1 73 p)) (hb : s < 1000000000) : scanM g h1 p (t + 1) := by
  rcases hs with ⟨hs, s1⟩ | ⟨hs, s1, s2, s3⟩
  · rw [s1] at c; exact absurd (Or.inl hb) c
  · refine Or.inr ⟨by omega, ⟨s1.1, by omega⟩, s2, fun x x0 x1 => ?_⟩
    by_cases ex : x = t
    · rw [ex, ← es, ← em]
      exact ⟨by omega, fun q => absurd q (by omega)⟩
    · exact s3 x x0 (by omega)
theorem c_X9_laysBest {en : Int} (sA : shA w) (A : isAll h S) (okS : okS S) (R : isR h n F L W) (ok : okC n F L W) (hL : ∀ k, 0 ≤ k → k < n → L k ≤ S 98) (hen : en = 0 ∨ en = 1) (hp : -1 ≤ p ∧ p ≤ S 98) (T : tabM n F L (stpS n F W (S 99) (S 100) en) (S 98) h p) : CV mX9_laysBest [vR 65, vI p, vI en] w h (fun h' => tabM n F L (stpS n F W (S 99) (S 100) en) (S 98) h' (p + -1) ∧ ∀ b, (b < 73 ∨ 73 + 3 < b) → h' b = h b) := by
  have l3 := okS.2.2.1
  have l4 := okS.2.2.2.1
  have l5 := okS.2.2.2.2.1
  have n0 := ok.1
  have cp := cle_r F p n.toNat
  refine e_X9_laysBest (r_X9_laysBest_0 sA ⟨by omega, by omega, ?_⟩)
  intro h3 e3 h5 e5
  have o5 : only h h5 73 p := by
    rw [e5, e3]
    refine ⟨fun q hq => ⟨?_, ?_, ?_⟩, fun b hb => ?_⟩
    · show st (st h 74 (p + 1) 1000000000) 76 (p + 1) (-1) 74 (q + 1) = h 74 (q + 1)
      rw [st_cell _ _ _ _ (by decide), st_slot _ _ _ _ (by omega)]
    · show st (st h 74 (p + 1) 1000000000) 76 (p + 1) (-1) 75 (q + 1) = h 75 (q + 1)
      rw [st_cell _ _ _ _ (by decide), st_cell _ _ _ _ (by decide)]
    · show st (st h 74 (p + 1) 1000000000) 76 (p + 1) (-1) 76 (q + 1) = h 76 (q + 1)
      rw [st_slot _ _ _ _ (by omega), st_cell _ _ _ _ (by decide)]
    · rw [st_row _ _ _ (by omega), st_row _ _ _ (by omega)]
  have c5 : tC h5 73 p = 1000000000 := by
    show h5 74 (p + 1) = _
    rw [e5, st_cell _ _ _ _ (by decide), e3, st_same]
  have n5 : tN h5 73 p = -1 := by
    show h5 76 (p + 1) = _
    rw [e5, st_same]
  have R5 : isR h5 n F L W := isR_f R (by rw [o5.2 65 (by decide)]) (fun b b1 b2 => o5.2 b (by omega))
  refine (c_X9_leastBehind sA R5 ok (by omega)).mono ?_
  rintro d h7 ⟨dl, rfl⟩
  have hLr : ∀ k, (0 ≤ k ∧ k < n) ∧ p < F k → 0 ≤ L k ∧ L k ≤ 300 := fun k q => by have := (ok.2.1 k q.1.1 q.1.2).1; omega
  have dr := lst_r hLr dl
  refine ⟨by omega, fun c => ?_, fun c h10 e10 h12 e12 => ?_⟩
  · have dd : p < d ∧ d ≤ S 98 ∧ ∀ k, 0 ≤ k → k < n → p < F k → d ≤ L k := by
      rcases dl with dl | ⟨⟨k, k1, k2⟩, dl⟩
      · exact absurd dl.1 c
      · have a := (ok.2.1 k k1.1.1 k1.1.2).1
        have b := hL k k1.1.1 k1.1.2
        exact ⟨by omega, by omega, fun j j0 j1 j2 => dl j ⟨⟨j0, j1⟩, j2⟩⟩
    have gr : ∀ x, p < x → x ≤ d → 0 ≤ stpS n F W (S 99) (S 100) en p x ∧ stpS n F W (S 99) (S 100) en p x ≤ 99 + 891 * (cle F x n.toNat - cle F p n.toNat) := fun x x0 x1 => stpS_r ok l4 l5.1 x0 (fun k k0 k1 k2 => by have := dd.2.2 k k0 k1 k2; omega)
    have tr : ∀ x, p < x → x ≤ d → (0 ≤ tC h 73 x ∧ tC h 73 x ≤ 99 * (300 - x) + 891 * (n - cle F x n.toNat)) ∧ (0 ≤ tM h 73 x ∧ tM h 73 x ≤ 300 - x) ∧ 0 ≤ cle F x n.toNat := fun x x0 x1 => by
      obtain ⟨-, x3, x4⟩ := T x x0 (by omega)
      exact ⟨x3, x4, (cle_r F x n.toNat).1⟩
    have fin : ∀ h1 : AH, bst (stpS n F W (S 99) (S 100) en) (tC h1 73) (tM h1 73) p (p + 1) d (tN h1 73 p) (tC h1 73 p) (tM h1 73 p) → only h h1 73 p → tabM n F L (stpS n F W (S 99) (S 100) en) (S 98) h1 (p + -1) ∧ ∀ b, (b < 73 ∨ 73 + 3 < b) → h1 b = h b := by
      intro h1 hb ho
      refine ⟨tabM_next ho T ⟨Or.inr ⟨d, c, dl, hb⟩, ?_, ?_⟩, fun b hb => ho.2 b (by omega)⟩
      · have x := hb.1
        have g1 := gr (tN h1 73 p) (by omega) x.2
        have t1 := tr (tN h1 73 p) (by omega) x.2
        have e := ho.1 (tN h1 73 p) (by omega)
        rw [hb.2.1.1, e.1]
        omega
      · have x := hb.1
        have t1 := tr (tN h1 73 p) (by omega) x.2
        have e := ho.1 (tN h1 73 p) (by omega)
        rw [hb.2.1.2, e.2.1]
        omega
    have key : ∀ (k : Nat) (t : Int) (h1 : AH), t + k = d + 1 → p + 1 ≤ t → scanM (stpS n F W (S 99) (S 100) en) h1 p t → only h h1 73 p → XV mX9_laysBest 52 [some (vR 65), some (vI p), some (vI en), some (vI t), none, none, none] [] w h1 (fun h' => tabM n F L (stpS n F W (S 99) (S 100) en) (S 98) h' (p + -1) ∧ ∀ b, (b < 73 ∨ 73 + 3 < b) → h' b = h b) := by
      intro k
      induction k with
      | zero =>
        intro t h1 ht htl hs ho
        have A1 : h1 66 98 = S 98 := by rw [ho.2 66 (by decide)]; exact A 98 (by omega) (by omega)
        have R1 : isR h1 n F L W := isR_f R (by rw [ho.2 65 (by decide)]) (fun b b1 b2 => ho.2 b (by omega))
        have done : bst (stpS n F W (S 99) (S 100) en) (tC h1 73) (tM h1 73) p (p + 1) d (tN h1 73 p) (tC h1 73 p) (tM h1 73 p) := by
          rcases hs with hs | ⟨-, s⟩
          · omega
          · rw [show t - 1 = d by omega] at s; exact s
        refine r_X9_laysBest_52 sA ?_
        rw [A1]
        refine ⟨by omega, by omega, fun _ => fin h1 done ho, fun _ => (c_X9_leastBehind sA R1 ok (by omega)).mono ?_⟩
        rintro x h2 ⟨xl, rfl⟩
        have ex : x = d := lst_one (fun k q => (hLr k q).1) xl dl
        exact ⟨by omega, fun _ => fin h2 done ho, fun c => absurd c (by omega)⟩
      | succ k ih =>
        intro t h1 ht htl hs ho
        have A1 : isAll h1 S := fun j j0 j1 => by rw [ho.2 66 (by decide)]; exact A j j0 j1
        have R1 : isR h1 n F L W := isR_f R (by rw [ho.2 65 (by decide)]) (fun b b1 b2 => ho.2 b (by omega))
        have gt := gr t (by omega) (by omega)
        have tt := tr t (by omega) (by omega)
        have et := ho.1 t (by omega)
        have hfar : p + 1 < t → tC h1 73 p < 1000000000 ∧ (0 ≤ tC h1 73 p) ∧ (0 ≤ tM h1 73 p ∧ tM h1 73 p ≤ 400) := fun q => by
          rcases hs with ⟨e, -⟩ | ⟨-, s⟩
          · omega
          · have x := s.1
            have g1 := gr (tN h1 73 p) (by omega) (by omega)
            have t1 := tr (tN h1 73 p) (by omega) (by omega)
            have e := ho.1 (tN h1 73 p) (by omega)
            rw [s.2.1.1, s.2.1.2, e.1, e.2.1]
            omega
        have cr : 0 ≤ tC h1 73 p ∧ tC h1 73 p ≤ 1000000000 := by
          rcases hs with ⟨-, e⟩ | ⟨q, s⟩
          · omega
          · have := hfar q; omega
        -- behind the cost
        have at111 : ∀ s, s = stpS n F W (S 99) (S 100) en p t + tC h1 73 t → XV mX9_laysBest 111 [some (vR 65), some (vI p), some (vI en), some (vI t), some (vL s), none, none] [] w h1 (fun h' => tabM n F L (stpS n F W (S 99) (S 100) en) (S 98) h' (p + -1) ∧ ∀ b, (b < 73 ∨ 73 + 3 < b) → h' b = h b) := by
          intro s es
          have sr : 0 ≤ s ∧ s < 1000000000 := by rw [es, et.1]; omega
          have keep : ¬ lexlt s (1 + tM h1 73 t) (tC h1 73 p) (tM h1 73 p) → XV mX9_laysBest 196 [some (vR 65), some (vI p), some (vI en), some (vI t), none, none, none] [] w h1 (fun h' => tabM n F L (stpS n F W (S 99) (S 100) en) (S 98) h' (p + -1) ∧ ∀ b, (b < 73 ∨ 73 + 3 < b) → h' b = h b) := fun z => r_X9_laysBest_196 sA (ih (t + 1) h1 (by omega) (by omega) (scanM_keep hs es rfl z sr.2) ho)
          have take : lexlt s (1 + tM h1 73 t) (tC h1 73 p) (tM h1 73 p) → XV mX9_laysBest 167 [some (vR 65), some (vI p), some (vI en), some (vI t), some (vL s), none, some (vI (1 + tM h1 73 t))] [] w h1 (fun h' => tabM n F L (stpS n F W (S 99) (S 100) en) (S 98) h' (p + -1) ∧ ∀ b, (b < 73 ∨ 73 + 3 < b) → h' b = h b) := by
            intro z
            refine r_X9_laysBest_167 sA ⟨by omega, by omega, fun h3 e3 h5 e5 h7 e7 => r_X9_laysBest_196 sA ?_⟩
            have e8 : h7 = setB h1 73 p s (1 + tM h1 73 t) t := by rw [e7, e5, e3]; rfl
            obtain ⟨n1, n2⟩ := scanM_take hs htl es rfl (Or.inr z) e8 (fun q => (hfar q).1)
            exact ih (t + 1) h7 (by omega) (by omega) n1 (only_tr ho n2)
          have e75 : (1 : Int) + h1 75 (t + 1) = 1 + tM h1 73 t := rfl
          have e75p : h1 75 (p + 1) = tM h1 73 p := rfl
          have e74p : h1 74 (p + 1) = tC h1 73 p := rfl
          refine r_X9_laysBest_111 sA ?_
          rw [e75, e75p, e74p]
          refine ⟨by omega, by omega, by omega, by omega, by omega, by omega, fun q => keep (by omega), fun q => ⟨fun q2 => take (by omega), fun q2 => ?_⟩⟩
          have hf : p + 1 < t := by
            rcases hs with ⟨e, e2⟩ | ⟨e, -⟩
            · omega
            · exact e
          have := hfar hf
          exact ⟨by rw [et.2.1]; omega, by omega, fun q3 => take (by omega), fun q3 => keep (by omega)⟩
        refine r_X9_laysBest_52 sA ?_
        rw [A1 98 (by omega) (by omega)]
        refine ⟨by omega, by omega, fun q => absurd q (by omega), fun _ => (c_X9_leastBehind sA R1 ok (by omega)).mono ?_⟩
        rintro x h2 ⟨xl, rfl⟩
        have ex : x = d := lst_one (fun k q => (hLr k q).1) xl dl
        refine ⟨by omega, fun q => absurd q (by omega), fun _ => ⟨by omega, fun q => ?_, fun q => ?_⟩⟩
        · refine (c_X9_waits sA R1 ok (by omega) (by omega)).eq ?_
          have es : S 99 + wtB F W p t n.toNat = stpS n F W (S 99) (S 100) en p t := by unfold stpS; rw [if_pos q]
          rw [A1 99 (by omega) (by omega), es]
          exact ⟨by omega, by omega, by omega, at111 _ rfl⟩
        · refine (c_X9_stay sA A1 okS (by omega) (by omega) (by omega)).eq ?_
          have es : (if p = -1 then S 99 else stp (S 99) (S 100) p t) = stpS n F W (S 99) (S 100) en p t := by unfold stpS; rw [if_neg q]
          rw [es]
          exact ⟨by omega, by omega, by omega, at111 _ rfl⟩
    exact key (d - p).toNat (p + 1) h7 (by omega) (by omega) (Or.inl ⟨rfl, c5⟩) o5
  · have o12 : only h h12 73 p := by
      refine only_tr o5 ?_
      rw [e12, e10]
      refine ⟨fun q hq => ⟨?_, ?_, ?_⟩, fun b hb => ?_⟩
      · show st (st h7 74 (p + 1) 0) 75 (p + 1) 0 74 (q + 1) = h7 74 (q + 1)
        rw [st_cell _ _ _ _ (by decide), st_slot _ _ _ _ (by omega)]
      · show st (st h7 74 (p + 1) 0) 75 (p + 1) 0 75 (q + 1) = h7 75 (q + 1)
        rw [st_slot _ _ _ _ (by omega), st_cell _ _ _ _ (by decide)]
      · show st (st h7 74 (p + 1) 0) 75 (p + 1) 0 76 (q + 1) = h7 76 (q + 1)
        rw [st_cell _ _ _ _ (by decide), st_cell _ _ _ _ (by decide)]
      · rw [st_row _ _ _ (by omega), st_row _ _ _ (by omega)]
    have v1 : tC h12 73 p = 0 := by
      show h12 74 (p + 1) = 0
      rw [e12, st_cell _ _ _ _ (by decide), e10, st_same]
    have v2 : tM h12 73 p = 0 := by
      show h12 75 (p + 1) = 0
      rw [e12, st_same]
    have v3 : tN h12 73 p = -1 := by
      show h12 76 (p + 1) = -1
      rw [e12, st_cell _ _ _ _ (by decide), e10, st_cell _ _ _ _ (by decide)]; exact n5
    refine ⟨tabM_next o12 T ⟨Or.inl ⟨fun k k0 k1 => ?_, v1, v2, v3⟩, by rw [v1]; omega, by rw [v2]; omega⟩, fun b hb => o12.2 b (by omega)⟩
    rcases dl with dl | ⟨⟨j, j1, j2⟩, -⟩
    · have := dl.2 k
      apply Decidable.byContradiction
      intro z
      exact this ⟨⟨k0, k1⟩, by omega⟩
    · have := hLr j j1; omega
end
