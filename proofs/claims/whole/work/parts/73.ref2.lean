def isAll (h : AH) (S : Int → Int) : Prop := ∀ j, 0 ≤ j → j < 101 → h 66 j = S j
/-- the row of calls of the reference -/
def isR (h : AH) (n : Int) (F L W : Int → Int) : Prop := h 65 10 = n ∧ ∀ k, 0 ≤ k → k < n → h 69 k = F k ∧ h 70 k = L k ∧ h 71 k = W k
/-- its row of wakes -/
def isV (h : AH) (m : Int) (t : Int → Int) : Prop := h 65 12 = m ∧ ∀ k, 0 ≤ k → k < m → h 73 k = t k
/-- only what it reckons in has changed -/
def kM (h h' : AH) : Prop := (∀ b, (b < 65 ∨ (66 ≤ b ∧ b ≤ 68) ∨ (77 ≤ b ∧ b ≤ 80) ∨ 82 < b) → h' b = h b) ∧ ∀ i, (i < 10 ∨ (13 ≤ i ∧ i ≤ 25)) → h' 65 i = h 65 i
theorem kM_rfl (h : AH) : kM h h := ⟨fun _ _ => rfl, fun _ _ => rfl⟩
theorem kM_tr {h h1 h2 : AH} (a : kM h h1) (b : kM h1 h2) : kM h h2 := ⟨fun x hx => (b.1 x hx).trans (a.1 x hx), fun i hi => (b.2 i hi).trans (a.2 i hi)⟩
theorem kM_st {h h1 : AH} {b i v : Int} (a : kM h h1) (hb : (69 ≤ b ∧ b ≤ 76) ∨ b = 81 ∨ b = 82 ∨ (b = 65 ∧ ((10 ≤ i ∧ i ≤ 12) ∨ 26 ≤ i))) : kM h (st h1 b i v) := by
  refine ⟨fun x hx => ?_, fun j hj => ?_⟩
  · rw [st_row _ _ _ (by omega)]; exact a.1 x hx
  · by_cases e : b = 65
    · rw [e, st_slot _ _ _ _ (by omega)]; exact a.2 j hj
    · rw [st_cell _ _ _ _ (by omega)]; exact a.2 j hj
theorem kM_all {h h' : AH} {S : Int → Int} (k : kM h h') (a : isAll h S) : isAll h' S := fun j j0 j1 => by rw [k.1 66 (by omega)]; exact a j j0 j1
def flg (x : Int) (P : Prop) : Prop := (x = 1 ∧ P) ∨ (x = 0 ∧ ¬ P)
theorem flg_r {x : Int} {P : Prop} (a : flg x P) : x = 0 ∨ x = 1 := a.elim (fun q => Or.inr q.1) (fun q => Or.inl q.1)
theorem flg_y {x : Int} {P : Prop} (a : flg x P) (c : ¬ x = 0) : P := a.elim (fun q => q.2) (fun q => absurd q.1 c)
theorem flg_n {x : Int} {P : Prop} (a : flg x P) (c : x = 0) : ¬ P := a.elim (fun q => by rw [q.1] at c; exact absurd c (by decide)) (fun q => q.2)
section
variable {w : WS} {h : AH} {S F L W : Int → Int} {n : Int}
theorem c_X9_isIn {v a b : Int} (sA : shA w) (h1 : inR v) (h2 : inR a) (h3 : inR b) : CI mX9_isIn [vI v, vI a, vI b] w h (fun x h' => x = (if a ≤ v ∧ v ≤ b then 1 else 0) ∧ h' = h) := by
  refine e_X9_isIn (r_X9_isIn_0 sA ⟨h1, h2, fun c => ⟨?_, rfl⟩, fun c => ⟨h3, fun c2 => ⟨?_, rfl⟩, fun c2 => ⟨?_, rfl⟩⟩⟩)
  · rw [if_neg (by omega)]
  · rw [if_neg (by omega)]
  · rw [if_pos (by omega)]
theorem c_X9_kinds (sA : shA w) : CI mX9_kinds [vR 65] w h (fun x h' => x = h 66 96 ∧ h' = h) := e_X9_kinds (r_X9_kinds_0 sA ⟨rfl, rfl⟩)
theorem c_X9_timers (sA : shA w) : CI mX9_timers [vR 65] w h (fun x h' => x = h 66 97 ∧ h' = h) := e_X9_timers (r_X9_timers_0 sA ⟨rfl, rfl⟩)
theorem near_fuel {S : Int → Int} (ok : okS S) (a : Int) : ∀ (m : Nat) (k : Int), k < m → k < S 96 → -1 ≤ k → near S a m k = near S a (m + 1) k := by
  intro m
  induction m with
  | zero => intro k h0 h1 h2; rw [near, near, if_pos (by omega)]
  | succ m ih =>
    intro k h0 h1 h2
    rw [near, near]
    by_cases c : k = -1
    · rw [if_pos c, if_pos c]
    · rw [if_neg c, if_neg c]
      have b := (ok.2.2.2.2.2.1 k (by omega) h1).1
      rw [ih (S k) (by omega) (by omega) (by omega)]
theorem near_8 {S : Int → Int} (ok : okS S) (a : Int) {k : Int} (hk : k < S 96) (h0 : -1 ≤ k) : ∀ (d m : Nat), m + d = 8 → k < m → near S a m k = near S a 8 k := by
  intro d
  induction d with
  | zero => intro m hm _; rw [show m = 8 by omega]
  | succ d ih => intro m hm hkm; rw [near_fuel ok a m k hkm hk h0]; exact ih (m + 1) (by omega) (by omega)
theorem c_X9_nearest {k a : Int} (sA : shA w) (A : isAll h S) (ok : okS S) (hk : 0 ≤ k ∧ k < S 96) (ha : a = 8 ∨ a = 16) : CI mX9_nearest [vR 65, vI k, vI a] w h (fun x h' => x = near S a 8 k ∧ h' = h) := by
  have k96 := ok.1
  have key : ∀ (m : Nat) (j : Int), j < m → m ≤ 8 → j < S 96 → -1 ≤ j → ∀ y, y = near S a m j → XI mX9_nearest 2 [some (vR 65), none, some (vI a), some (vI j)] [] w h (fun x h' => x = y ∧ h' = h) := by
    intro m
    induction m with
    | zero =>
      intro j h0 h1 h2 h3 y hy
      subst hy
      refine r_X9_nearest_2 sA ⟨by omega, fun c => ⟨by rw [near]; exact c, rfl⟩, fun c => absurd (show j = -1 by omega) c⟩
    | succ m ih =>
      intro j h0 h1 h2 h3 y hy
      subst hy
      refine r_X9_nearest_2 sA ⟨by omega, fun c => ⟨by rw [near, if_pos c]; exact c, rfl⟩, fun c => ⟨by omega, by omega, ?_⟩⟩
      have b := ok.2.2.2.2.2.1 j (by omega) h2
      have e1 : h 66 (a + j) = S (a + j) := A _ (by omega) (by omega)
      have e2 : h 66 (0 + j) = S j := by rw [Int.zero_add]; exact A _ (by omega) (by omega)
      rw [e1, e2]
      have rg : inR (S (a + j)) := by rcases ha with e | e <;> rw [e] <;> omega
      refine ⟨rg, fun c2 => ⟨?_, rfl⟩, fun c2 => ⟨by omega, by omega, ih (S j) (by omega) (by omega) (by omega) (by omega) _ ?_⟩⟩
      · rw [near, if_neg c, if_pos c2]
      · rw [near, if_neg c, if_neg (fun q => q c2)]
  exact e_X9_nearest (r_X9_nearest_0 sA (key 8 k (by omega) (by omega) hk.2 (by omega) _ rfl))
theorem c_X9_calls {t u : Int} (sA : shA w) (A : isAll h S) (ok : okS S) (ht : 0 ≤ t ∧ t < S 97) (hu : 0 ≤ u ∧ u ≤ 400) : CI mX9_calls [vR 65, vI t, vI u] w h (fun x h' => x = (if calS S t u then 1 else 0) ∧ h' = h) := by
  have k97 := ok.2.1
  obtain ⟨b1, b2, b3⟩ := ok.2.2.2.2.2.2 t ht.1 ht.2
  refine e_X9_calls (r_X9_calls_0 sA ?_)
  rw [A (48 + t) (by omega) (by omega), A (72 + t) (by omega) (by omega)]
  refine ⟨by omega, by omega, by omega, by omega, by omega, fun c => ⟨by omega, fun c2 => ⟨?_, rfl⟩, fun c2 => ⟨by omega, by omega, ?_, fun c3 => ⟨?_, rfl⟩, fun c3 => ⟨?_, rfl⟩⟩⟩, fun c => ⟨by omega, fun c2 => ⟨?_, rfl⟩, fun c2 => ⟨?_, rfl⟩⟩⟩
  · rw [if_neg (by unfold calS; omega)]
  · have := Int.emod_nonneg (u - S (72 + t)) c
    have := Int.emod_lt_of_pos (u - S (72 + t)) (show 0 < S (48 + t) by omega)
    omega
  · rw [if_neg]
    rintro (z | z)
    · rw [z, Int.zero_emod] at c3; exact c3 rfl
    · exact c3 z.2.2
  · rw [if_pos]
    by_cases z : u - S (72 + t) = 0
    · exact Or.inl z
    · exact Or.inr ⟨by omega, by omega, c3⟩
  · rw [if_neg (by unfold calS; omega)]
  · rw [if_pos (Or.inl c2)]
theorem c_X9_cut {t : Int} (sA : shA w) (A : isAll h S) (ok : okS S) (ht : inR t) : CI mX9_cut [vR 65, vI t] w h (fun x h' => x = min t (S 98) ∧ h' = h) := by
  have l3 := ok.2.2.1
  refine e_X9_cut (r_X9_cut_0 sA ?_)
  rw [A 98 (by omega) (by omega)]
  exact ⟨ht, by omega, fun c => ⟨by omega, rfl⟩, fun c => ⟨by omega, rfl⟩⟩
theorem c_X9_wakesAt {t : Int} (sA : shA w) (hm : 0 ≤ h 65 12 ∧ h 65 12 < 302) : CV mX9_wakesAt [vR 65, vI t] w h (fun h' => h' = st (st h 73 (h 65 12) t) 65 12 (h 65 12 + 1)) := by
  refine e_X9_wakesAt (r_X9_wakesAt_0 sA ⟨hm.1, hm.2, fun h3 e3 h5 e5 => ?_⟩)
  rw [e5, e3, st_cell _ _ _ _ (by decide)]
theorem addV {h1 h2 : AH} {x : Int} (e : h2 = st (st h1 73 (h1 65 12) x) 65 12 (h1 65 12 + 1)) : h2 65 12 = h1 65 12 + 1 ∧ h2 73 (h1 65 12) = x ∧ (∀ i, i ≠ h1 65 12 → h2 73 i = h1 73 i) ∧ (∀ b, b ≠ 65 → b ≠ 73 → h2 b = h1 b) ∧ ∀ i, i ≠ 12 → h2 65 i = h1 65 i := by
  subst e
  refine ⟨st_same _ _ _ _, ?_, fun i hi => ?_, fun b b1 b2 => ?_, fun i hi => ?_⟩
  · rw [st_cell _ _ _ _ (by decide), st_same]
  · rw [st_cell _ _ _ _ (by decide), st_slot _ _ _ _ hi]
  · rw [st_row _ _ _ b1, st_row _ _ _ b2]
  · rw [st_slot _ _ _ _ hi, st_cell _ _ _ _ (by decide)]
theorem c_X9_leastBehind {t : Int} (sA : shA w) (R : isR h n F L W) (ok : okC n F L W) (ht : inR t) : CI mX9_leastBehind [vR 65, vI t] w h (fun x h' => lst L (fun k => (0 ≤ k ∧ k < n) ∧ t < F k) x ∧ h' = h) := by
  have n0 := ok.1
  have key : ∀ (d : Nat) (r i : Int), i + d = n → 0 ≤ i → lst L (fun k => (0 ≤ k ∧ k < i) ∧ t < F k) r → XI mX9_leastBehind 4 [some (vR 65), some (vI t), some (vI r), some (vI i)] [] w h (fun x h' => lst L (fun k => (0 ≤ k ∧ k < n) ∧ t < F k) x ∧ h' = h) := by
    intro d
    induction d with
    | zero =>
      intro r i hi i0 hl
      refine r_X9_leastBehind_4 sA ?_
      rw [R.1]
      refine ⟨by omega, by omega, fun _ => ⟨?_, rfl⟩, fun c => absurd c (by omega)⟩
      rw [show n = i by omega]; exact hl
    | succ d ih =>
      intro r i hi i0 hl
      refine r_X9_leastBehind_4 sA ?_
      obtain ⟨g1, g2, g3⟩ := R.2 i i0 (by omega)
      have b := (ok.2.1 i i0 (by omega)).1
      rw [R.1, g1, g2]
      have hr := lst_r (fun k (q : (0 ≤ k ∧ k < i) ∧ t < F k) => by have := (ok.2.1 k q.1.1 (by omega)).1; omega) hl
      have no : ¬ t < F i → lst L (fun k => (0 ≤ k ∧ k < i + 1) ∧ t < F k) r := fun c => lst_iff (fun k => ⟨fun q => ⟨by omega, q.2⟩, fun q => ⟨by
        have : k ≠ i := fun e => c (e ▸ q.2)
        omega, q.2⟩⟩) hl
      have yes : t < F i → lst L (fun k => (0 ≤ k ∧ k < i + 1) ∧ t < F k) (if r = -1 ∨ L i < r then L i else r) := fun c => lst_iff (fun k => ⟨fun q => q.elim (fun q => ⟨by omega, q.2⟩) (fun q => by rw [q]; exact ⟨by omega, c⟩), fun q => by
        by_cases e : k = i
        · exact Or.inr e
        · exact Or.inl ⟨by omega, q.2⟩⟩) (lst_more hl (fun k q => by have := (ok.2.1 k q.1.1 (by omega)).1; omega))
      refine ⟨by omega, by omega, fun c => absurd c (by omega), fun _ => ⟨i0, by omega, by omega, ht, fun c => ih r (i + 1) (by omega) (by omega) (no (by omega)), fun c => ⟨by omega, fun c2 => ?_, fun c2 => ⟨by omega, fun c3 => ?_, fun c3 => ?_⟩⟩⟩⟩
      · have y := yes (by omega)
        rw [if_pos (Or.inl c2)] at y
        exact ih _ (i + 1) (by omega) (by omega) y
      · have y := yes (by omega)
        rw [if_neg (by omega)] at y
        exact ih _ (i + 1) (by omega) (by omega) y
      · have y := yes (by omega)
        rw [if_pos (by omega)] at y
        exact ih _ (i + 1) (by omega) (by omega) y
  exact e_X9_leastBehind (r_X9_leastBehind_0 sA (key n.toNat (-1) 0 (by omega) (by omega) (Or.inl ⟨rfl, fun k q => by omega⟩)))
theorem c_X9_stay {p t : Int} (sA : shA w) (A : isAll h S) (ok : okS S) (hp : -1 ≤ p) (hpt : p < t) (ht : t ≤ 300) : CI mX9_stay [vR 65, vI p, vI t] w h (fun x h' => x = (if p = -1 then S 99 else stp (S 99) (S 100) p t) ∧ h' = h) := by
  have l4 := ok.2.2.2.1
  have l5 := ok.2.2.2.2.1
  have m := mul_r (x := S 100) (y := t - p) (a := 20) (b := 400) l5 (by omega)
  refine e_X9_stay (r_X9_stay_0 sA ?_)
  rw [A 99 (by omega) (by omega), A 100 (by omega) (by omega)]
  refine ⟨by omega, fun c => ⟨by rw [if_pos c], rfl⟩, fun c => ⟨by omega, by omega, fun c2 => ⟨?_, rfl⟩, fun c2 => ⟨?_, rfl⟩⟩⟩
  · rw [if_neg c, stp, if_neg (by omega)]
  · rw [if_neg c, stp, if_pos (by omega)]
theorem c_X9_waits {p t : Int} (sA : shA w) (R : isR h n F L W) (ok : okC n F L W) (hp : inR p) (ht : inR t) : CI mX9_waits [vR 65, vI p, vI t] w h (fun x h' => x = wtB F W p t n.toNat ∧ h' = h) := by
  have n0 := ok.1
  have key : ∀ (d i : Nat), i + d = n.toNat → XI mX9_waits 5 [some (vR 65), some (vI p), some (vI t), some (vI (wtB F W p t i)), some (vI i)] [] w h (fun x h' => x = wtB F W p t n.toNat ∧ h' = h) := by
    intro d
    induction d with
    | zero =>
      intro i hi
      refine r_X9_waits_5 sA ?_
      rw [R.1]
      exact ⟨by omega, by omega, fun _ => ⟨by congr 1, rfl⟩, fun c => absurd c (by omega)⟩
    | succ d ih =>
      intro i hi
      refine r_X9_waits_5 sA ?_
      obtain ⟨g1, g2, g3⟩ := R.2 i (by omega) (by omega)
      have b := (ok.2.1 i (by omega) (by omega)).1
      have I := ih (i + 1) (by omega)
      rw [R.1, g1, g3]
      refine ⟨by omega, by omega, fun c => absurd c (by omega), fun _ => ⟨by omega, by omega, by omega, hp, fun c => ?_, fun c => ⟨ht, fun c2 => ?_, fun c2 y ey => ?_⟩⟩⟩
      · rw [wtB, if_neg (by omega)] at I; exact I
      · rw [wtB, if_neg (by omega)] at I; exact I
      · rw [wtB, if_pos (by omega)] at I; rw [ey]; exact I
  exact e_X9_waits (r_X9_waits_0 sA (key n.toNat 0 (by omega)))
theorem c_X9_answers {m u : Int} {t : Int → Int} (sA : shA w) (V : isV h m t) (ok : okW m t) (hu : inR u) : CI mX9_answers [vR 65, vI u] w h (fun x h' => x = an m t u ∧ h' = h) := by
  have m0 := ok.1
  have key : ∀ (d : Nat) (i : Int), i + d = m → 0 ≤ i → ∀ y, y = ansF t u d i → XI mX9_answers 2 [some (vR 65), some (vI u), some (vI i)] [] w h (fun x h' => x = y ∧ h' = h) := by
    intro d
    induction d with
    | zero =>
      intro i hi i0 y hy
      refine r_X9_answers_2 sA ?_
      rw [V.1]
      exact ⟨by omega, by omega, fun _ => ⟨hy.symm, rfl⟩, fun c => absurd c (by omega)⟩
    | succ d ih =>
      intro i hi i0 y hy
      refine r_X9_answers_2 sA ?_
      have b := ok.2.1 i i0 (by omega)
      rw [V.1, V.2 i i0 (by omega)]
      refine ⟨by omega, by omega, fun c => absurd c (by omega), fun _ => ⟨i0, by omega, by omega, hu, fun c => ih (i + 1) (by omega) (by omega) y ?_, fun c => ⟨?_, rfl⟩⟩⟩
      · rw [hy, ansF, if_neg (by omega)]
      · rw [hy, ansF, if_pos (by omega)]
  exact e_X9_answers (r_X9_answers_0 sA (key m.toNat 0 (by omega) (by omega) _ rfl))
theorem c_X9_awake (sA : shA w) (A : isAll h S) (ok : okS S) : CI mX9_awake [vR 65] w h (fun x h' => x = awk (S 99) (S 100) ∧ h' = h) := by
  have l4 := ok.2.2.2.1
  have l5 := ok.2.2.2.2.1
  refine e_X9_awake (r_X9_awake_0 sA ?_)
  rw [A 99 (by omega) (by omega), A 100 (by omega) (by omega)]
  refine ⟨by omega, fun c => ⟨by omega, by omega, by rw [awk, if_neg c], rfl⟩, fun c => ⟨by rw [awk, if_pos c], rfl⟩⟩
theorem c_X9_wakesBy {r last u p : Int} (sA : shA w) (R : isR h n F L W) (ok : okC n F L W) (hp : h 66 99 = p ∧ 0 ≤ p ∧ p ≤ 99) (hr : inR r) (hl : -1 ≤ last ∧ last ≤ 300) (hu : 0 ≤ u ∧ u ≤ 300) : CI mX9_wakesBy [vR 65, vI r, vI last, vI u] w h (fun x h' => (x = 1 ∧ wantU n F L W r p last u ∨ x = 0 ∧ ¬ wantU n F L W r p last u) ∧ h' = h) := by
  have n0 := ok.1
  have key : ∀ (d i : Nat) (an mu : Int), i + d = n.toNat → flg an (∃ k, opn i F last u k) → flg mu (∃ k, opn i F last u k ∧ L k = u) → (0 ≤ osum F W last u i ∧ osum F W last u i ≤ 3000 * i) → XI mX9_wakesBy 12 [some (vR 65), some (vI r), some (vI last), some (vI u), some (vI (osum F W last u i)), some (vI an), some (vI mu), some (vI i)] [] w h (fun x h' => (x = 1 ∧ wantU n F L W r p last u ∨ x = 0 ∧ ¬ wantU n F L W r p last u) ∧ h' = h) := by
    intro d
    induction d with
    | zero =>
      intro i an mu hi ha hm ho
      have ar := flg_r ha
      have mr := flg_r hm
      refine r_X9_wakesBy_12 sA ?_
      have en : (i : Int) = n := by omega
      have ei : n.toNat = i := by omega
      rw [R.1, hp.1]
      rw [en] at ha hm
      unfold wantU
      rw [ei]
      refine ⟨by omega, by omega, fun _ => ⟨by omega, fun c => ⟨Or.inr ⟨rfl, fun z => flg_n ha c z.1⟩, rfl⟩, fun c => ⟨hr, fun c2 => ⟨Or.inl ⟨rfl, flg_y ha c, Or.inl c2⟩, rfl⟩, fun c2 => ⟨by omega, fun c3 => ⟨Or.inl ⟨rfl, flg_y ha c, Or.inr (Or.inl (flg_y hm c3))⟩, rfl⟩, fun c3 => ⟨fun c4 => ⟨Or.inr ⟨rfl, fun z => ?_⟩, rfl⟩, fun c4 => ⟨by omega, by omega, fun c5 => ⟨Or.inr ⟨rfl, fun z => ?_⟩, rfl⟩, fun c5 => ⟨Or.inl ⟨rfl, flg_y ha c, Or.inr (Or.inr ⟨c4, by omega⟩)⟩, rfl⟩⟩⟩⟩⟩⟩, fun c => absurd c (by omega)⟩
      · rcases z.2 with z | z | z
        · exact c2 z
        · exact flg_n hm c3 z
        · exact c4 z.1
      · rcases z.2 with z | z | z
        · exact c2 z
        · exact flg_n hm c3 z
        · omega
    | succ d ih =>
      intro i an mu hi ha hm ho
      have ar := flg_r ha
      have mr := flg_r hm
      refine r_X9_wakesBy_12 sA ?_
      obtain ⟨g1, g2, g3⟩ := R.2 i (by omega) (by omega)
      obtain ⟨b, b2⟩ := ok.2.1 i (by omega) (by omega)
      rw [R.1, g1, g2, g3]
      have skip : ¬ (last < F i ∧ F i ≤ u) → XI mX9_wakesBy 12 [some (vR 65), some (vI r), some (vI last), some (vI u), some (vI (osum F W last u i)), some (vI an), some (vI mu), some (vI ((i : Int) + 1))] [] w h (fun x h' => (x = 1 ∧ wantU n F L W r p last u ∨ x = 0 ∧ ¬ wantU n F L W r p last u) ∧ h' = h) := by
        intro c
        have eo : ∀ k, opn ((i + 1 : Nat) : Int) F last u k ↔ opn i F last u k := fun k => ⟨fun q => ⟨by
          have : k ≠ i := fun e => c (e ▸ q.2)
          have := q.1
          omega, q.2⟩, fun q => ⟨by have := q.1; omega, q.2⟩⟩
        have I := ih (i + 1) an mu (by omega) (by simp only [eo]; exact ha) (by simp only [eo]; exact hm) (by rw [osum, if_neg c]; omega)
        rw [osum, if_neg c, Int.add_zero] at I
        exact I
      have take : ∀ mu' : Int, (last < F i ∧ F i ≤ u) → ((mu' = 1 ∧ (¬ mu = 0 ∨ L i = u)) ∨ (mu' = 0 ∧ mu = 0 ∧ ¬ L i = u)) → ∀ y, y = osum F W last u i + W i * (u + 1 - F i) → XI mX9_wakesBy 12 [some (vR 65), some (vI r), some (vI last), some (vI u), some (vI y), some (vI 1), some (vI mu'), some (vI ((i : Int) + 1))] [] w h (fun x h' => (x = 1 ∧ wantU n F L W r p last u ∨ x = 0 ∧ ¬ wantU n F L W r p last u) ∧ h' = h) := by
        intro mu' c hmu y ey
        have here : opn ((i + 1 : Nat) : Int) F last u i := ⟨by omega, c⟩
        have m1 := mul_r (x := W i) (y := u + 1 - F i) (a := 9) (b := 301) b2 (by omega)
        have m2 := Int.mul_nonneg b2.1 (show 0 ≤ u + 1 - F i by omega)
        have I := ih (i + 1) 1 mu' (by omega) (Or.inl ⟨rfl, i, here⟩) ?_ (by rw [osum, if_pos c]; omega)
        · rw [osum, if_pos c, ← ey] at I; exact I
        · rcases hmu with ⟨e, q | q⟩ | ⟨e, q1, q2⟩
          · obtain ⟨k, k1, k2⟩ := flg_y hm q
            exact Or.inl ⟨e, k, ⟨by have := k1.1; omega, k1.2⟩, k2⟩
          · exact Or.inl ⟨e, i, here, q⟩
          · right
            refine ⟨e, ?_⟩
            rintro ⟨k, k1, k2⟩
            by_cases z : k = i
            · rw [z] at k2; exact q2 k2
            · exact flg_n hm q1 ⟨k, ⟨by have := k1.1; omega, k1.2⟩, k2⟩
      refine ⟨by omega, by omega, fun c => absurd c (by omega), fun _ => ⟨by omega, by omega, by omega, by omega, fun c => skip (by omega), fun c => ⟨by omega, fun c2 => ⟨by omega, fun c3 y ey => take 1 (by omega) (Or.inl ⟨rfl, Or.inl c3⟩) y ey, fun c3 => ⟨by omega, fun c4 y ey => take 0 (by omega) (Or.inr ⟨rfl, c3, c4⟩) y ey, fun c4 y ey => take 1 (by omega) (Or.inl ⟨rfl, Or.inr c4⟩) y ey⟩⟩, fun c2 => skip (by omega)⟩⟩⟩
  refine e_X9_wakesBy (r_X9_wakesBy_0 sA (key n.toNat 0 0 0 (by omega) (Or.inr ⟨rfl, ?_⟩) (Or.inr ⟨rfl, ?_⟩) ⟨Int.le_refl _, Int.le_refl _⟩))
  · rintro ⟨k, k1⟩; have := k1.1; omega
  · rintro ⟨k, k1, -⟩; have := k1.1; omega
theorem c_X9_awakeI (sA : shA w) (h1 : 0 ≤ h 66 99 ∧ h 66 99 ≤ 99) (h2 : 0 ≤ h 66 100 ∧ h 66 100 ≤ 20) : CI mX9_awake [vR 65] w h (fun x h' => x = awk (h 66 99) (h 66 100) ∧ h' = h) := by
  refine e_X9_awake (r_X9_awake_0 sA ?_)
  refine ⟨by omega, fun c => ⟨by omega, by omega, by rw [awk, if_neg c], rfl⟩, fun c => ⟨by rw [awk, if_pos c], rfl⟩⟩
end
theorem e_X9_isKind {w : WS} {h : AH} {Q : Int → AH → Prop} {a1 : Int} (X : XI mX9_isKind 0 [some (vR 65), some (vI a1)] [] w h Q) : CI mX9_isKind [vR 65, vI a1] w h Q := CA.of (M := mX9_isKind) (by decide) rfl (Nat.le_of_ble_eq_true rfl) X
set_option maxRecDepth 20000 in
theorem r_X9_isKind_0 {w : WS} {h : AH} {Q : Int → AH → Prop} {a1 : Int} (sA : shA w) (V : (inR a1 ∧ inR ((h 66 96) - 1) ∧ Q (if (0 : Int) ≤ a1 ∧ a1 ≤ ((h 66 96) - 1) then 1 else 0) h)) : XI mX9_isKind 0 [some (vR 65), some (vI a1)] [] w h Q := by
  refine s_iload_n (pc' := 1) (x := a1) dX9_isKind_0 rfl rfl ?_
  refine s_iconst (pc' := 2) dX9_isKind_1 rfl ?_
  refine s_aload_n (pc' := 3) (x := 65) dX9_isKind_2 rfl rfl ?_
  refine s_callV (pc' := 6) (av := []) (a := 65) (sk := [vI 0, vI a1]) (kc := 9) dX9_isKind_3 ml_9_73 okX9_kinds oiX9_kinds (by decide) (NF := 39) rfl (fa_t65 sA) rfl (Nat.le_of_ble_eq_true rfl) (Nat.le_refl 0) (Nat.le_refl 0) rfl (CI.eon (c_X9_kinds sA) ?_)
  refine s_iconst (pc' := 7) dX9_isKind_6 rfl ?_
  refine s_isub (pc' := 8) dX9_isKind_7 rfl ?_
  obtain ⟨z1, z2, V⟩ := V
  refine s_callS (pc' := 11) (av := [vI a1, vI 0, vI ((h 66 96) - 1)]) (sk := []) dX9_isKind_8 ml_9_77 okX9_isIn osX9_isIn (by decide) rfl (Nat.le_of_ble_eq_true rfl) (Nat.le_refl 0) (Nat.le_refl 0) rfl (CI.eon (c_X9_isIn sA z1 (by decide) z2) ?_)
  exact s_zret dX9_isKind_11 rfl (by split <;> simp) ⟨_, rfl, rfl, V⟩
theorem e_X9_slack {w : WS} {h : AH} {Q : Int → AH → Prop} {a1 : Int} (X : XI mX9_slack 0 [some (vR 65), some (vI a1)] [] w h Q) : CI mX9_slack [vR 65, vI a1] w h Q := CA.of (M := mX9_slack) (by decide) rfl (Nat.le_of_ble_eq_true rfl) X
set_option maxRecDepth 20000 in
theorem r_X9_slack_0 {w : WS} {h : AH} {Q : Int → AH → Prop} {a1 : Int} (sA : shA w) (V : CI mX9_nearest [vR 65, vI a1, vI 8] w h (fun x2 h1 => (inR x2 ∧ ((¬ x2 = (-1) → CI mX9_nearest [vR 65, vI a1, vI 8] w h1 (fun x5 h4 => (0 ≤ (8 + x5) ∧ (8 + x5) < 202 ∧ Q (h4 66 (8 + x5)) h4))) ∧ (x2 = (-1) → Q 0 h1))))) : XI mX9_slack 0 [some (vR 65), some (vI a1)] [] w h Q := by
  refine s_aload_n (pc' := 1) (x := 65) dX9_slack_0 rfl rfl ?_
  refine s_iload_n (pc' := 2) (x := a1) dX9_slack_1 rfl rfl ?_
  refine s_bipush (pc' := 4) dX9_slack_2 (by decide) rfl ?_
  refine s_callV (pc' := 7) (av := [vI a1, vI 8]) (a := 65) (sk := []) (kc := 9) dX9_slack_4 ml_9_81 okX9_nearest oiX9_nearest (by decide) (NF := 39) rfl (fa_t65 sA) rfl (Nat.le_of_ble_eq_true rfl) (Nat.le_refl 0) (Nat.le_refl 0) rfl (CI.on V (fun x2 h1 V => ?_))
  refine s_iconst (pc' := 8) dX9_slack_7 rfl ?_
  obtain ⟨z3, V⟩ := V
  obtain ⟨V8, V9⟩ := V
  refine s_icmp_ne (pc' := 11) (tgt := 15) dX9_slack_8 rfl rfl z3 (by decide) (fun c => ?_) (fun c => ?_)
  · have V := V8 c
    refine s_aload_n (pc' := 16) (x := 65) dX9_slack_15 rfl rfl ?_
    refine s_getF (pc' := 19) (b := 66) (kc := 9) (i := 0) dX9_slack_16 clX9 (by decide) fl_9_0 (fa_t65 sA) (fa_f9_0 sA) (fun _ => rfl) rfl ?_
    refine s_bipush (pc' := 21) dX9_slack_19 (by decide) rfl ?_
    refine s_aload_n (pc' := 22) (x := 65) dX9_slack_21 rfl rfl ?_
    refine s_iload_n (pc' := 23) (x := a1) dX9_slack_22 rfl rfl ?_
    refine s_bipush (pc' := 25) dX9_slack_23 (by decide) rfl ?_
    refine s_callV (pc' := 28) (av := [vI a1, vI 8]) (a := 65) (sk := [vI 8, vR 66]) (kc := 9) dX9_slack_25 ml_9_81 okX9_nearest oiX9_nearest (by decide) (NF := 39) rfl (fa_t65 sA) rfl (Nat.le_of_ble_eq_true rfl) (Nat.le_refl 0) (Nat.le_refl 0) rfl (CI.on V (fun x5 h4 V => ?_))
    refine s_iadd (pc' := 29) dX9_slack_28 rfl ?_
    obtain ⟨z6, z7, V⟩ := V
    refine s_iald (pc' := 30) dX9_slack_29 (fa_t66 sA) z6 (fa_lt66 sA z7) rfl ?_
    exact s_iret dX9_slack_30 rfl ⟨_, rfl, rfl, V⟩
  · have V := V9 c
    refine s_iconst (pc' := 12) dX9_slack_11 rfl ?_
    refine s_goto (tgt := 30) dX9_slack_12 rfl ?_
    exact s_iret dX9_slack_30 rfl ⟨_, rfl, rfl, V⟩
theorem e_X9_weight {w : WS} {h : AH} {Q : Int → AH → Prop} {a1 : Int} (X : XI mX9_weight 0 [some (vR 65), some (vI a1)] [] w h Q) : CI mX9_weight [vR 65, vI a1] w h Q := CA.of (M := mX9_weight) (by decide) rfl (Nat.le_of_ble_eq_true rfl) X
set_option maxRecDepth 20000 in
theorem r_X9_weight_0 {w : WS} {h : AH} {Q : Int → AH → Prop} {a1 : Int} (sA : shA w) (V : CI mX9_nearest [vR 65, vI a1, vI 16] w h (fun x2 h1 => (inR x2 ∧ ((¬ x2 = (-1) → CI mX9_nearest [vR 65, vI a1, vI 16] w h1 (fun x5 h4 => (0 ≤ (16 + x5) ∧ (16 + x5) < 202 ∧ Q (h4 66 (16 + x5)) h4))) ∧ (x2 = (-1) → Q 1 h1))))) : XI mX9_weight 0 [some (vR 65), some (vI a1)] [] w h Q := by
  refine s_aload_n (pc' := 1) (x := 65) dX9_weight_0 rfl rfl ?_
  refine s_iload_n (pc' := 2) (x := a1) dX9_weight_1 rfl rfl ?_
  refine s_bipush (pc' := 4) dX9_weight_2 (by decide) rfl ?_
  refine s_callV (pc' := 7) (av := [vI a1, vI 16]) (a := 65) (sk := []) (kc := 9) dX9_weight_4 ml_9_81 okX9_nearest oiX9_nearest (by decide) (NF := 39) rfl (fa_t65 sA) rfl (Nat.le_of_ble_eq_true rfl) (Nat.le_refl 0) (Nat.le_refl 0) rfl (CI.on V (fun x2 h1 V => ?_))
  refine s_iconst (pc' := 8) dX9_weight_7 rfl ?_
  obtain ⟨z3, V⟩ := V
  obtain ⟨V8, V9⟩ := V
  refine s_icmp_ne (pc' := 11) (tgt := 15) dX9_weight_8 rfl rfl z3 (by decide) (fun c => ?_) (fun c => ?_)
  · have V := V8 c
    refine s_aload_n (pc' := 16) (x := 65) dX9_weight_15 rfl rfl ?_
    refine s_getF (pc' := 19) (b := 66) (kc := 9) (i := 0) dX9_weight_16 clX9 (by decide) fl_9_0 (fa_t65 sA) (fa_f9_0 sA) (fun _ => rfl) rfl ?_
    refine s_bipush (pc' := 21) dX9_weight_19 (by decide) rfl ?_
    refine s_aload_n (pc' := 22) (x := 65) dX9_weight_21 rfl rfl ?_
    refine s_iload_n (pc' := 23) (x := a1) dX9_weight_22 rfl rfl ?_
    refine s_bipush (pc' := 25) dX9_weight_23 (by decide) rfl ?_
    refine s_callV (pc' := 28) (av := [vI a1, vI 16]) (a := 65) (sk := [vI 16, vR 66]) (kc := 9) dX9_weight_25 ml_9_81 okX9_nearest oiX9_nearest (by decide) (NF := 39) rfl (fa_t65 sA) rfl (Nat.le_of_ble_eq_true rfl) (Nat.le_refl 0) (Nat.le_refl 0) rfl (CI.on V (fun x5 h4 V => ?_))
    refine s_iadd (pc' := 29) dX9_weight_28 rfl ?_
    obtain ⟨z6, z7, V⟩ := V
    refine s_iald (pc' := 30) dX9_weight_29 (fa_t66 sA) z6 (fa_lt66 sA z7) rfl ?_
    exact s_iret dX9_weight_30 rfl ⟨_, rfl, rfl, V⟩
  · have V := V9 c
    refine s_iconst (pc' := 12) dX9_weight_11 rfl ?_
    refine s_goto (tgt := 30) dX9_weight_12 rfl ?_
    exact s_iret dX9_weight_30 rfl ⟨_, rfl, rfl, V⟩
theorem e_X9_laysFewest {w : WS} {h : AH} {Q : AH → Prop} (X : XV mX9_laysFewest 0 [some (vR 65), none] [] w h Q) : CV mX9_laysFewest [vR 65] w h Q := CA.of (M := mX9_laysFewest) (by decide) rfl (Nat.le_of_ble_eq_true rfl) X
set_option maxRecDepth 20000 in
theorem r_X9_laysFewest_0 {w : WS} {h : AH} {Q : AH → Prop} (sA : shA w) (V : (∀ h1, h1 = st h 65 12 0 → CI mX9_leastBehind [vR 65, vI (-1)] w h1 (fun x4 h3 => XV mX9_laysFewest 11 [some (vR 65), some (vI x4)] [] w h3 Q))) : XV mX9_laysFewest 0 [some (vR 65), none] [] w h Q := by
  refine s_aload_n (pc' := 1) (x := 65) dX9_laysFewest_0 rfl rfl ?_
  refine s_iconst (pc' := 2) dX9_laysFewest_1 rfl ?_
  refine s_put (pc' := 5) (v := vI 0) (x := 0) (kc := 9) (i := 12) dX9_laysFewest_2 clX9 (by decide) fl_9_12 rfl (fa_t65 sA) (fun E => nar_int E _) (fun _ _ => rfl) (j0 := 12) rfl rfl ?_
  obtain ⟨h1, e2⟩ : ∃ q, q = st h 65 12 0 := ⟨_, rfl⟩
  rw [← e2]
  have V := V h1 e2
  refine s_aload_n (pc' := 6) (x := 65) dX9_laysFewest_5 rfl rfl ?_
  refine s_iconst (pc' := 7) dX9_laysFewest_6 rfl ?_
  refine s_callV (pc' := 10) (av := [vI (-1)]) (a := 65) (sk := []) (kc := 9) dX9_laysFewest_7 ml_9_108 okX9_leastBehind oiX9_leastBehind (by decide) (NF := 39) rfl (fa_t65 sA) rfl (Nat.le_of_ble_eq_true rfl) (Nat.le_refl 0) (Nat.le_refl 0) rfl (CI.on V (fun x4 h3 V => ?_))
  refine s_istore_n (pc' := 11) (ls' := [some (vR 65), some (vI x4)]) dX9_laysFewest_10 (by decide) rfl rfl ?_
  exact V
set_option maxRecDepth 20000 in
theorem r_X9_laysFewest_11 {w : WS} {h : AH} {Q : AH → Prop} {a1 : Int} (sA : shA w) (V : (inR a1 ∧ ((a1 = (-1) → Q h) ∧ (¬ a1 = (-1) → CV mX9_wakesAt [vR 65, vI a1] w h (fun h2 => CI mX9_leastBehind [vR 65, vI a1] w h2 (fun x4 h3 => XV mX9_laysFewest 11 [some (vR 65), some (vI x4)] [] w h3 Q)))))) : XV mX9_laysFewest 11 [some (vR 65), some (vI a1)] [] w h Q := by
  refine s_iload_n (pc' := 12) (x := a1) dX9_laysFewest_11 rfl rfl ?_
  refine s_iconst (pc' := 13) dX9_laysFewest_12 rfl ?_
  obtain ⟨z1, V⟩ := V
  obtain ⟨V5, V6⟩ := V
  refine s_icmp_eq (pc' := 16) (tgt := 30) dX9_laysFewest_13 rfl rfl z1 (by decide) (fun c => ?_) (fun c => ?_)
  · have V := V5 c
    exact s_vret dX9_laysFewest_30 rfl ⟨rfl, rfl, V⟩
  · have V := V6 c
    refine s_aload_n (pc' := 17) (x := 65) dX9_laysFewest_16 rfl rfl ?_
    refine s_iload_n (pc' := 18) (x := a1) dX9_laysFewest_17 rfl rfl ?_
    refine s_callV (pc' := 21) (av := [vI a1]) (a := 65) (sk := []) (kc := 9) dX9_laysFewest_18 ml_9_111 okX9_wakesAt oiX9_wakesAt (by decide) (NF := 39) rfl (fa_t65 sA) rfl (Nat.le_of_ble_eq_true rfl) (Nat.le_refl 0) (Nat.le_refl 0) rfl (CV.on V (fun h2 V => ?_))
    refine s_aload_n (pc' := 22) (x := 65) dX9_laysFewest_21 rfl rfl ?_
    refine s_iload_n (pc' := 23) (x := a1) dX9_laysFewest_22 rfl rfl ?_
    refine s_callV (pc' := 26) (av := [vI a1]) (a := 65) (sk := []) (kc := 9) dX9_laysFewest_23 ml_9_108 okX9_leastBehind oiX9_leastBehind (by decide) (NF := 39) rfl (fa_t65 sA) rfl (Nat.le_of_ble_eq_true rfl) (Nat.le_refl 0) (Nat.le_refl 0) rfl (CI.on V (fun x4 h3 V => ?_))
    refine s_istore_n (pc' := 27) (ls' := [some (vR 65), some (vI x4)]) dX9_laysFewest_26 (by decide) rfl rfl ?_
    refine s_goto (tgt := 11) dX9_laysFewest_27 rfl ?_
    exact V
theorem e_X9_laysBest {w : WS} {h : AH} {Q : AH → Prop} {a1 a2 : Int} (X : XV mX9_laysBest 0 [some (vR 65), some (vI a1), some (vI a2), none, none, none, none] [] w h Q) : CV mX9_laysBest [vR 65, vI a1, vI a2] w h Q := CA.of (M := mX9_laysBest) (by decide) rfl (Nat.le_of_ble_eq_true rfl) X
set_option maxRecDepth 20000 in
theorem r_X9_laysBest_0 {w : WS} {h : AH} {Q : AH → Prop} {a1 a2 : Int} (sA : shA w) (V : (0 ≤ (a1 + 1) ∧ (a1 + 1) < 302 ∧ (∀ h3, h3 = st h 74 (a1 + 1) 1000000000 → (∀ h5, h5 = st h3 76 (a1 + 1) (-1) → CI mX9_leastBehind [vR 65, vI a1] w h5 (fun x8 h7 => (inR x8 ∧ ((¬ x8 = (-1) → XV mX9_laysBest 52 [some (vR 65), some (vI a1), some (vI a2), some (vI (a1 + 1)), none, none, none] [] w h7 Q) ∧ (x8 = (-1) → (∀ h10, h10 = st h7 74 (a1 + 1) 0 → (∀ h12, h12 = st h10 75 (a1 + 1) 0 → Q h12)))))))))) : XV mX9_laysBest 0 [some (vR 65), some (vI a1), some (vI a2), none, none, none, none] [] w h Q := by
  refine s_aload_n (pc' := 1) (x := 65) dX9_laysBest_0 rfl rfl ?_
  refine s_getF (pc' := 4) (b := 74) (kc := 9) (i := 13) dX9_laysBest_1 clX9 (by decide) fl_9_13 (fa_t65 sA) (fa_f9_13 sA) (fun _ => rfl) rfl ?_
  refine s_iload_n (pc' := 5) (x := a1) dX9_laysBest_4 rfl rfl ?_
  refine s_iconst (pc' := 6) dX9_laysBest_5 rfl ?_
  refine s_iadd (pc' := 7) dX9_laysBest_6 rfl ?_
  refine s_ldc2 (pc' := 10) (x := 1000000000) dX9_laysBest_7 cstl_9_114 rfl rfl ?_
  obtain ⟨z1, z2, V⟩ := V
  refine s_last (pc' := 11) dX9_laysBest_10 (fa_t74 sA) z1 (fa_lt74 sA z2) rfl ?_
  obtain ⟨h3, e4⟩ : ∃ q, q = st h 74 (a1 + 1) 1000000000 := ⟨_, rfl⟩
  rw [← e4]
  have V := V h3 e4
  refine s_aload_n (pc' := 12) (x := 65) dX9_laysBest_11 rfl rfl ?_
  refine s_getF (pc' := 15) (b := 76) (kc := 9) (i := 15) dX9_laysBest_12 clX9 (by decide) fl_9_15 (fa_t65 sA) (fa_f9_15 sA) (fun _ => rfl) rfl ?_
  refine s_iload_n (pc' := 16) (x := a1) dX9_laysBest_15 rfl rfl ?_
  refine s_iconst (pc' := 17) dX9_laysBest_16 rfl ?_
  refine s_iadd (pc' := 18) dX9_laysBest_17 rfl ?_
  refine s_iconst (pc' := 19) dX9_laysBest_18 rfl ?_
  refine s_iast (pc' := 20) dX9_laysBest_19 (fa_t76 sA) z1 (fa_lt76 sA z2) rfl ?_
  obtain ⟨h5, e6⟩ : ∃ q, q = st h3 76 (a1 + 1) (-1) := ⟨_, rfl⟩
  rw [← e6]
  have V := V h5 e6
  refine s_aload_n (pc' := 21) (x := 65) dX9_laysBest_20 rfl rfl ?_
  refine s_iload_n (pc' := 22) (x := a1) dX9_laysBest_21 rfl rfl ?_
  refine s_callV (pc' := 25) (av := [vI a1]) (a := 65) (sk := []) (kc := 9) dX9_laysBest_22 ml_9_108 okX9_leastBehind oiX9_leastBehind (by decide) (NF := 39) rfl (fa_t65 sA) rfl (Nat.le_of_ble_eq_true rfl) (Nat.le_refl 0) (Nat.le_refl 0) rfl (CI.on V (fun x8 h7 V => ?_))
  refine s_iconst (pc' := 26) dX9_laysBest_25 rfl ?_
  obtain ⟨z9, V⟩ := V
  obtain ⟨V14, V15⟩ := V
  refine s_icmp_ne (pc' := 29) (tgt := 48) dX9_laysBest_26 rfl rfl z9 (by decide) (fun c => ?_) (fun c => ?_)
  · have V := V14 c
    refine s_iload_n (pc' := 49) (x := a1) dX9_laysBest_48 rfl rfl ?_
    refine s_iconst (pc' := 50) dX9_laysBest_49 rfl ?_
    refine s_iadd (pc' := 51) dX9_laysBest_50 rfl ?_
    refine s_istore_n (pc' := 52) (ls' := [some (vR 65), some (vI a1), some (vI a2), some (vI (a1 + 1)), none, none, none]) dX9_laysBest_51 (by decide) rfl rfl ?_
    exact V
  · have V := V15 c
    refine s_aload_n (pc' := 30) (x := 65) dX9_laysBest_29 rfl rfl ?_
    refine s_getF (pc' := 33) (b := 74) (kc := 9) (i := 13) dX9_laysBest_30 clX9 (by decide) fl_9_13 (fa_t65 sA) (fa_f9_13 sA) (fun _ => rfl) rfl ?_
    refine s_iload_n (pc' := 34) (x := a1) dX9_laysBest_33 rfl rfl ?_
    refine s_iconst (pc' := 35) dX9_laysBest_34 rfl ?_
    refine s_iadd (pc' := 36) dX9_laysBest_35 rfl ?_
    refine s_lconst (pc' := 37) (x := 0) dX9_laysBest_36 rfl rfl ?_
    refine s_last (pc' := 38) dX9_laysBest_37 (fa_t74 sA) z1 (fa_lt74 sA z2) rfl ?_
    obtain ⟨h10, e11⟩ : ∃ q, q = st h7 74 (a1 + 1) 0 := ⟨_, rfl⟩
    rw [← e11]
    have V := V h10 e11
    refine s_aload_n (pc' := 39) (x := 65) dX9_laysBest_38 rfl rfl ?_
    refine s_getF (pc' := 42) (b := 75) (kc := 9) (i := 14) dX9_laysBest_39 clX9 (by decide) fl_9_14 (fa_t65 sA) (fa_f9_14 sA) (fun _ => rfl) rfl ?_
    refine s_iload_n (pc' := 43) (x := a1) dX9_laysBest_42 rfl rfl ?_
    refine s_iconst (pc' := 44) dX9_laysBest_43 rfl ?_
    refine s_iadd (pc' := 45) dX9_laysBest_44 rfl ?_
    refine s_iconst (pc' := 46) dX9_laysBest_45 rfl ?_
    refine s_iast (pc' := 47) dX9_laysBest_46 (fa_t75 sA) z1 (fa_lt75 sA z2) rfl ?_
    obtain ⟨h12, e13⟩ : ∃ q, q = st h10 75 (a1 + 1) 0 := ⟨_, rfl⟩
    rw [← e13]
    have V := V h12 e13
    exact s_vret dX9_laysBest_47 rfl ⟨rfl, rfl, V⟩
set_option maxRecDepth 20000 in
theorem r_X9_laysBest_52 {w : WS} {h : AH} {Q : AH → Prop} {a1 a2 a3 : Int} (sA : shA w) (V : (inR a3 ∧ inR (h 66 98) ∧ (((h 66 98) < a3 → Q h) ∧ (¬ (h 66 98) < a3 → CI mX9_leastBehind [vR 65, vI a1] w h (fun x4 h3 => (inR x4 ∧ ((x4 < a3 → Q h3) ∧ (¬ x4 < a3 → (inR a2 ∧ ((a2 = 0 → CI mX9_waits [vR 65, vI a1, vI a3] w h3 (fun x8 h7 => (inR ((h3 66 99) + x8) ∧ (0 ≤ (a3 + 1) ∧ (a3 + 1) < 302 ∧ XV mX9_laysBest 111 [some (vR 65), some (vI a1), some (vI a2), some (vI a3), some (vL (((h3 66 99) + x8) + (h7 74 (a3 + 1)))), none, none] [] w h7 Q)))) ∧ (¬ a2 = 0 → CI mX9_stay [vR 65, vI a1, vI a3] w h3 (fun x13 h12 => (inR x13 ∧ (0 ≤ (a3 + 1) ∧ (a3 + 1) < 302 ∧ XV mX9_laysBest 111 [some (vR 65), some (vI a1), some (vI a2), some (vI a3), some (vL (x13 + (h12 74 (a3 + 1)))), none, none] [] w h12 Q)))))))))))))) : XV mX9_laysBest 52 [some (vR 65), some (vI a1), some (vI a2), some (vI a3), none, none, none] [] w h Q := by
  refine s_iload_n (pc' := 53) (x := a3) dX9_laysBest_52 rfl rfl ?_
  refine s_aload_n (pc' := 54) (x := 65) dX9_laysBest_53 rfl rfl ?_
  refine s_getF (pc' := 57) (b := 66) (kc := 9) (i := 0) dX9_laysBest_54 clX9 (by decide) fl_9_0 (fa_t65 sA) (fa_f9_0 sA) (fun _ => rfl) rfl ?_
  refine s_bipush (pc' := 59) dX9_laysBest_57 (by decide) rfl ?_
  refine s_iald (pc' := 60) dX9_laysBest_59 (fa_t66 sA) (by decide) (fa_lt66 sA (by decide)) rfl ?_
  obtain ⟨z1, z2, V⟩ := V
  obtain ⟨V21, V22⟩ := V
  refine s_icmp_gt (pc' := 63) (tgt := 202) dX9_laysBest_60 rfl rfl z1 z2 (fun c => ?_) (fun c => ?_)
  · have V := V21 c
    exact s_vret dX9_laysBest_202 rfl ⟨rfl, rfl, V⟩
  · have V := V22 c
    refine s_iload_n (pc' := 64) (x := a3) dX9_laysBest_63 rfl rfl ?_
    refine s_aload_n (pc' := 65) (x := 65) dX9_laysBest_64 rfl rfl ?_
    refine s_iload_n (pc' := 66) (x := a1) dX9_laysBest_65 rfl rfl ?_
    refine s_callV (pc' := 69) (av := [vI a1]) (a := 65) (sk := [vI a3]) (kc := 9) dX9_laysBest_66 ml_9_108 okX9_leastBehind oiX9_leastBehind (by decide) (NF := 39) rfl (fa_t65 sA) rfl (Nat.le_of_ble_eq_true rfl) (Nat.le_refl 0) (Nat.le_refl 0) rfl (CI.on V (fun x4 h3 V => ?_))
    obtain ⟨z5, V⟩ := V
    obtain ⟨V19, V20⟩ := V
    refine s_icmp_gt (pc' := 72) (tgt := 202) dX9_laysBest_69 rfl rfl z1 z5 (fun c => ?_) (fun c => ?_)
    · have V := V19 c
      exact s_vret dX9_laysBest_202 rfl ⟨rfl, rfl, V⟩
    · have V := V20 c
      refine s_iload_n (pc' := 73) (x := a2) dX9_laysBest_72 rfl rfl ?_
      obtain ⟨z6, V⟩ := V
      obtain ⟨V17, V18⟩ := V
      refine s_if_eq (pc' := 76) (tgt := 85) dX9_laysBest_73 rfl rfl z6 (fun c => ?_) (fun c => ?_)
      · have V := V17 c
        refine s_aload_n (pc' := 86) (x := 65) dX9_laysBest_85 rfl rfl ?_
        refine s_getF (pc' := 89) (b := 66) (kc := 9) (i := 0) dX9_laysBest_86 clX9 (by decide) fl_9_0 (fa_t65 sA) (fa_f9_0 sA) (fun _ => rfl) rfl ?_
        refine s_bipush (pc' := 91) dX9_laysBest_89 (by decide) rfl ?_
        refine s_iald (pc' := 92) dX9_laysBest_91 (fa_t66 sA) (by decide) (fa_lt66 sA (by decide)) rfl ?_
        refine s_aload_n (pc' := 93) (x := 65) dX9_laysBest_92 rfl rfl ?_
        refine s_iload_n (pc' := 94) (x := a1) dX9_laysBest_93 rfl rfl ?_
        refine s_iload_n (pc' := 95) (x := a3) dX9_laysBest_94 rfl rfl ?_
        refine s_callV (pc' := 98) (av := [vI a1, vI a3]) (a := 65) (sk := [vI (h3 66 99)]) (kc := 9) dX9_laysBest_95 ml_9_119 okX9_waits oiX9_waits (by decide) (NF := 39) rfl (fa_t65 sA) rfl (Nat.le_of_ble_eq_true rfl) (Nat.le_refl 0) (Nat.le_refl 0) rfl (CI.on V (fun x8 h7 V => ?_))
        refine s_iadd (pc' := 99) dX9_laysBest_98 rfl ?_
        obtain ⟨z9, V⟩ := V
        refine s_i2l (pc' := 100) dX9_laysBest_99 z9 rfl ?_
        refine s_aload_n (pc' := 101) (x := 65) dX9_laysBest_100 rfl rfl ?_
        refine s_getF (pc' := 104) (b := 74) (kc := 9) (i := 13) dX9_laysBest_101 clX9 (by decide) fl_9_13 (fa_t65 sA) (fa_f9_13 sA) (fun _ => rfl) rfl ?_
        refine s_iload_n (pc' := 105) (x := a3) dX9_laysBest_104 rfl rfl ?_
        refine s_iconst (pc' := 106) dX9_laysBest_105 rfl ?_
        refine s_iadd (pc' := 107) dX9_laysBest_106 rfl ?_
        obtain ⟨z10, z11, V⟩ := V
        refine s_lald (pc' := 108) dX9_laysBest_107 (fa_t74 sA) z10 (fa_lt74 sA z11) rfl ?_
        refine s_ladd (pc' := 109) dX9_laysBest_108 rfl ?_
        refine s_lstore (pc' := 111) (ls' := [some (vR 65), some (vI a1), some (vI a2), some (vI a3), some (vL (((h3 66 99) + x8) + (h7 74 (a3 + 1)))), none, none]) dX9_laysBest_109 (by decide) rfl rfl ?_
        exact V
      · have V := V18 c
        refine s_aload_n (pc' := 77) (x := 65) dX9_laysBest_76 rfl rfl ?_
        refine s_iload_n (pc' := 78) (x := a1) dX9_laysBest_77 rfl rfl ?_
        refine s_iload_n (pc' := 79) (x := a3) dX9_laysBest_78 rfl rfl ?_
        refine s_callV (pc' := 82) (av := [vI a1, vI a3]) (a := 65) (sk := []) (kc := 9) dX9_laysBest_79 ml_9_116 okX9_stay oiX9_stay (by decide) (NF := 39) rfl (fa_t65 sA) rfl (Nat.le_of_ble_eq_true rfl) (Nat.le_refl 0) (Nat.le_refl 0) rfl (CI.on V (fun x13 h12 V => ?_))
        refine s_goto (tgt := 99) dX9_laysBest_82 rfl ?_
        obtain ⟨z14, V⟩ := V
        refine s_i2l (pc' := 100) dX9_laysBest_99 z14 rfl ?_
        refine s_aload_n (pc' := 101) (x := 65) dX9_laysBest_100 rfl rfl ?_
        refine s_getF (pc' := 104) (b := 74) (kc := 9) (i := 13) dX9_laysBest_101 clX9 (by decide) fl_9_13 (fa_t65 sA) (fa_f9_13 sA) (fun _ => rfl) rfl ?_
        refine s_iload_n (pc' := 105) (x := a3) dX9_laysBest_104 rfl rfl ?_
        refine s_iconst (pc' := 106) dX9_laysBest_105 rfl ?_
        refine s_iadd (pc' := 107) dX9_laysBest_106 rfl ?_
        obtain ⟨z15, z16, V⟩ := V
        refine s_lald (pc' := 108) dX9_laysBest_107 (fa_t74 sA) z15 (fa_lt74 sA z16) rfl ?_
        refine s_ladd (pc' := 109) dX9_laysBest_108 rfl ?_
        refine s_lstore (pc' := 111) (ls' := [some (vR 65), some (vI a1), some (vI a2), some (vI a3), some (vL (x13 + (h12 74 (a3 + 1)))), none, none]) dX9_laysBest_109 (by decide) rfl rfl ?_
        exact V
set_option maxRecDepth 20000 in
theorem r_X9_laysBest_111 {w : WS} {h : AH} {Q : AH → Prop} {a1 a2 a3 a4 : Int} (sA : shA w) (V : (0 ≤ (a3 + 1) ∧ (a3 + 1) < 302 ∧ (0 ≤ (a1 + 1) ∧ (a1 + 1) < 302 ∧ (inL a4 ∧ inL (h 74 (a1 + 1)) ∧ (((h 74 (a1 + 1)) < a4 → XV mX9_laysBest 196 [some (vR 65), some (vI a1), some (vI a2), some (vI a3), none, none, none] [] w h Q) ∧ (¬ (h 74 (a1 + 1)) < a4 → ((¬ a4 = (h 74 (a1 + 1)) → XV mX9_laysBest 167 [some (vR 65), some (vI a1), some (vI a2), some (vI a3), some (vL a4), none, some (vI (1 + (h 75 (a3 + 1))))] [] w h Q) ∧ (a4 = (h 74 (a1 + 1)) → (inR (1 + (h 75 (a3 + 1))) ∧ inR (h 75 (a1 + 1)) ∧ (((1 + (h 75 (a3 + 1))) < (h 75 (a1 + 1)) → XV mX9_laysBest 167 [some (vR 65), some (vI a1), some (vI a2), some (vI a3), some (vL a4), none, some (vI (1 + (h 75 (a3 + 1))))] [] w h Q) ∧ (¬ (1 + (h 75 (a3 + 1))) < (h 75 (a1 + 1)) → XV mX9_laysBest 196 [some (vR 65), some (vI a1), some (vI a2), some (vI a3), none, none, none] [] w h Q))))))))))) : XV mX9_laysBest 111 [some (vR 65), some (vI a1), some (vI a2), some (vI a3), some (vL a4), none, none] [] w h Q := by
  refine s_iconst (pc' := 112) dX9_laysBest_111 rfl ?_
  refine s_aload_n (pc' := 113) (x := 65) dX9_laysBest_112 rfl rfl ?_
  refine s_getF (pc' := 116) (b := 75) (kc := 9) (i := 14) dX9_laysBest_113 clX9 (by decide) fl_9_14 (fa_t65 sA) (fa_f9_14 sA) (fun _ => rfl) rfl ?_
  refine s_iload_n (pc' := 117) (x := a3) dX9_laysBest_116 rfl rfl ?_
  refine s_iconst (pc' := 118) dX9_laysBest_117 rfl ?_
  refine s_iadd (pc' := 119) dX9_laysBest_118 rfl ?_
  obtain ⟨z1, z2, V⟩ := V
  refine s_iald (pc' := 120) dX9_laysBest_119 (fa_t75 sA) z1 (fa_lt75 sA z2) rfl ?_
  refine s_iadd (pc' := 121) dX9_laysBest_120 rfl ?_
  refine s_istore (pc' := 123) (ls' := [some (vR 65), some (vI a1), some (vI a2), some (vI a3), some (vL a4), none, some (vI (1 + (h 75 (a3 + 1))))]) dX9_laysBest_121 (by decide) rfl rfl ?_
  refine s_lload (pc' := 125) (x := a4) dX9_laysBest_123 rfl rfl ?_
  refine s_aload_n (pc' := 126) (x := 65) dX9_laysBest_125 rfl rfl ?_
  refine s_getF (pc' := 129) (b := 74) (kc := 9) (i := 13) dX9_laysBest_126 clX9 (by decide) fl_9_13 (fa_t65 sA) (fa_f9_13 sA) (fun _ => rfl) rfl ?_
  refine s_iload_n (pc' := 130) (x := a1) dX9_laysBest_129 rfl rfl ?_
  refine s_iconst (pc' := 131) dX9_laysBest_130 rfl ?_
  refine s_iadd (pc' := 132) dX9_laysBest_131 rfl ?_
  obtain ⟨z3, z4, V⟩ := V
  refine s_lald (pc' := 133) dX9_laysBest_132 (fa_t74 sA) z3 (fa_lt74 sA z4) rfl ?_
  obtain ⟨z5, z6, V⟩ := V
  refine s_lcmp (pc' := 134) dX9_laysBest_133 z5 z6 rfl ?_
  obtain ⟨V13, V14⟩ := V
  refine s_if_gt (pc' := 137) (tgt := 196) dX9_laysBest_134 rfl rfl (cmpZ_in _ _) (fun c => ?_) (fun c => ?_)
  · have V := V13 ((cmpZ_gt _ _).mp c)
    refine s_drop 4 (ls' := [some (vR 65), some (vI a1), some (vI a2), some (vI a3), none, none, some (vI (1 + (h 75 (a3 + 1))))]) rfl ?_
    refine s_drop 6 (ls' := [some (vR 65), some (vI a1), some (vI a2), some (vI a3), none, none, none]) rfl ?_
    exact V
  · have V := V14 (fun q => c ((cmpZ_gt _ _).mpr q))
    refine s_lload (pc' := 139) (x := a4) dX9_laysBest_137 rfl rfl ?_
    refine s_aload_n (pc' := 140) (x := 65) dX9_laysBest_139 rfl rfl ?_
    refine s_getF (pc' := 143) (b := 74) (kc := 9) (i := 13) dX9_laysBest_140 clX9 (by decide) fl_9_13 (fa_t65 sA) (fa_f9_13 sA) (fun _ => rfl) rfl ?_
    refine s_iload_n (pc' := 144) (x := a1) dX9_laysBest_143 rfl rfl ?_
    refine s_iconst (pc' := 145) dX9_laysBest_144 rfl ?_
    refine s_iadd (pc' := 146) dX9_laysBest_145 rfl ?_
    refine s_lald (pc' := 147) dX9_laysBest_146 (fa_t74 sA) z3 (fa_lt74 sA z4) rfl ?_
    refine s_lcmp (pc' := 148) dX9_laysBest_147 z5 z6 rfl ?_
    obtain ⟨V11, V12⟩ := V
    refine s_if_ne (pc' := 151) (tgt := 167) dX9_laysBest_148 rfl rfl (cmpZ_in _ _) (fun c => ?_) (fun c => ?_)
    · have V := V11 (fun q => c ((cmpZ_eq _ _).mpr q))
      exact V
    · have V := V12 ((cmpZ_eq _ _).mp c)
      refine s_iload (pc' := 153) (x := (1 + (h 75 (a3 + 1)))) dX9_laysBest_151 rfl rfl ?_
      refine s_aload_n (pc' := 154) (x := 65) dX9_laysBest_153 rfl rfl ?_
      refine s_getF (pc' := 157) (b := 75) (kc := 9) (i := 14) dX9_laysBest_154 clX9 (by decide) fl_9_14 (fa_t65 sA) (fa_f9_14 sA) (fun _ => rfl) rfl ?_
      refine s_iload_n (pc' := 158) (x := a1) dX9_laysBest_157 rfl rfl ?_
      refine s_iconst (pc' := 159) dX9_laysBest_158 rfl ?_
      refine s_iadd (pc' := 160) dX9_laysBest_159 rfl ?_
      refine s_iald (pc' := 161) dX9_laysBest_160 (fa_t75 sA) z3 (fa_lt75 sA z4) rfl ?_
      obtain ⟨z7, z8, V⟩ := V
      obtain ⟨V9, V10⟩ := V
      refine s_icmp_lt (pc' := 164) (tgt := 167) dX9_laysBest_161 rfl rfl z7 z8 (fun c => ?_) (fun c => ?_)
      · have V := V9 c
        exact V
      · have V := V10 c
        refine s_goto (tgt := 196) dX9_laysBest_164 rfl ?_
        refine s_drop 4 (ls' := [some (vR 65), some (vI a1), some (vI a2), some (vI a3), none, none, some (vI (1 + (h 75 (a3 + 1))))]) rfl ?_
        refine s_drop 6 (ls' := [some (vR 65), some (vI a1), some (vI a2), some (vI a3), none, none, none]) rfl ?_
        exact V
set_option maxRecDepth 20000 in
theorem r_X9_laysBest_167 {w : WS} {h : AH} {Q : AH → Prop} {a1 a2 a3 a4 a6 : Int} (sA : shA w) (V : (0 ≤ (a1 + 1) ∧ (a1 + 1) < 302 ∧ (∀ h3, h3 = st h 74 (a1 + 1) a4 → (∀ h5, h5 = st h3 75 (a1 + 1) a6 → (∀ h7, h7 = st h5 76 (a1 + 1) a3 → XV mX9_laysBest 196 [some (vR 65), some (vI a1), some (vI a2), some (vI a3), none, none, none] [] w h7 Q))))) : XV mX9_laysBest 167 [some (vR 65), some (vI a1), some (vI a2), some (vI a3), some (vL a4), none, some (vI a6)] [] w h Q := by
  refine s_aload_n (pc' := 168) (x := 65) dX9_laysBest_167 rfl rfl ?_
  refine s_getF (pc' := 171) (b := 74) (kc := 9) (i := 13) dX9_laysBest_168 clX9 (by decide) fl_9_13 (fa_t65 sA) (fa_f9_13 sA) (fun _ => rfl) rfl ?_
  refine s_iload_n (pc' := 172) (x := a1) dX9_laysBest_171 rfl rfl ?_
  refine s_iconst (pc' := 173) dX9_laysBest_172 rfl ?_
  refine s_iadd (pc' := 174) dX9_laysBest_173 rfl ?_
  refine s_lload (pc' := 176) (x := a4) dX9_laysBest_174 rfl rfl ?_
  obtain ⟨z1, z2, V⟩ := V
  refine s_last (pc' := 177) dX9_laysBest_176 (fa_t74 sA) z1 (fa_lt74 sA z2) rfl ?_
  obtain ⟨h3, e4⟩ : ∃ q, q = st h 74 (a1 + 1) a4 := ⟨_, rfl⟩
  rw [← e4]
  have V := V h3 e4
  refine s_aload_n (pc' := 178) (x := 65) dX9_laysBest_177 rfl rfl ?_
  refine s_getF (pc' := 181) (b := 75) (kc := 9) (i := 14) dX9_laysBest_178 clX9 (by decide) fl_9_14 (fa_t65 sA) (fa_f9_14 sA) (fun _ => rfl) rfl ?_
  refine s_iload_n (pc' := 182) (x := a1) dX9_laysBest_181 rfl rfl ?_
  refine s_iconst (pc' := 183) dX9_laysBest_182 rfl ?_
  refine s_iadd (pc' := 184) dX9_laysBest_183 rfl ?_
  refine s_iload (pc' := 186) (x := a6) dX9_laysBest_184 rfl rfl ?_
  refine s_iast (pc' := 187) dX9_laysBest_186 (fa_t75 sA) z1 (fa_lt75 sA z2) rfl ?_
  obtain ⟨h5, e6⟩ : ∃ q, q = st h3 75 (a1 + 1) a6 := ⟨_, rfl⟩
  rw [← e6]
  have V := V h5 e6
  refine s_aload_n (pc' := 188) (x := 65) dX9_laysBest_187 rfl rfl ?_
  refine s_getF (pc' := 191) (b := 76) (kc := 9) (i := 15) dX9_laysBest_188 clX9 (by decide) fl_9_15 (fa_t65 sA) (fa_f9_15 sA) (fun _ => rfl) rfl ?_
  refine s_iload_n (pc' := 192) (x := a1) dX9_laysBest_191 rfl rfl ?_
  refine s_iconst (pc' := 193) dX9_laysBest_192 rfl ?_
  refine s_iadd (pc' := 194) dX9_laysBest_193 rfl ?_
  refine s_iload_n (pc' := 195) (x := a3) dX9_laysBest_194 rfl rfl ?_
  refine s_iast (pc' := 196) dX9_laysBest_195 (fa_t76 sA) z1 (fa_lt76 sA z2) rfl ?_
  obtain ⟨h7, e8⟩ : ∃ q, q = st h5 76 (a1 + 1) a3 := ⟨_, rfl⟩
  rw [← e8]
  have V := V h7 e8
  refine s_drop 4 (ls' := [some (vR 65), some (vI a1), some (vI a2), some (vI a3), none, none, some (vI a6)]) rfl ?_
  refine s_drop 6 (ls' := [some (vR 65), some (vI a1), some (vI a2), some (vI a3), none, none, none]) rfl ?_
  exact V
set_option maxRecDepth 20000 in
theorem r_X9_laysBest_196 {w : WS} {h : AH} {Q : AH → Prop} {a1 a2 a3 : Int} (sA : shA w) (V : XV mX9_laysBest 52 [some (vR 65), some (vI a1), some (vI a2), some (vI (a3 + 1)), none, none, none] [] w h Q) : XV mX9_laysBest 196 [some (vR 65), some (vI a1), some (vI a2), some (vI a3), none, none, none] [] w h Q := by
  refine s_iinc (pc' := 199) (ls' := [some (vR 65), some (vI a1), some (vI a2), some (vI (a3 + 1)), none, none, none]) dX9_laysBest_196 rfl (by decide) rfl rfl ?_
  refine s_goto (tgt := 52) dX9_laysBest_199 rfl ?_
  exact V
theorem e_X9_laysDearest {w : WS} {h : AH} {Q : AH → Prop} {a1 : Int} (X : XV mX9_laysDearest 0 [some (vR 65), some (vI a1), none] [] w h Q) : CV mX9_laysDearest [vR 65, vI a1] w h Q := CA.of (M := mX9_laysDearest) (by decide) rfl (Nat.le_of_ble_eq_true rfl) X
set_option maxRecDepth 20000 in
theorem r_X9_laysDearest_0 {w : WS} {h : AH} {Q : AH → Prop} {a1 : Int} (sA : shA w) (V : XV mX9_laysDearest 8 [some (vR 65), some (vI a1), some (vI (h 66 98))] [] w h Q) : XV mX9_laysDearest 0 [some (vR 65), some (vI a1), none] [] w h Q := by
  refine s_aload_n (pc' := 1) (x := 65) dX9_laysDearest_0 rfl rfl ?_
  refine s_getF (pc' := 4) (b := 66) (kc := 9) (i := 0) dX9_laysDearest_1 clX9 (by decide) fl_9_0 (fa_t65 sA) (fa_f9_0 sA) (fun _ => rfl) rfl ?_
  refine s_bipush (pc' := 6) dX9_laysDearest_4 (by decide) rfl ?_
  refine s_iald (pc' := 7) dX9_laysDearest_6 (fa_t66 sA) (by decide) (fa_lt66 sA (by decide)) rfl ?_
  refine s_istore_n (pc' := 8) (ls' := [some (vR 65), some (vI a1), some (vI (h 66 98))]) dX9_laysDearest_7 (by decide) rfl rfl ?_
  exact V
set_option maxRecDepth 20000 in
theorem r_X9_laysDearest_8 {w : WS} {h : AH} {Q : AH → Prop} {a1 a2 : Int} (sA : shA w) (V : (inR a2 ∧ ((a2 < (-1) → (∀ h2, h2 = st h 65 12 0 → XV mX9_laysDearest 37 [some (vR 65), none, some (vI (h2 76 0))] [] w h2 Q)) ∧ (¬ a2 < (-1) → CV mX9_laysBest [vR 65, vI a2, vI a1] w h (fun h4 => XV mX9_laysDearest 8 [some (vR 65), some (vI a1), some (vI (a2 + (-1)))] [] w h4 Q))))) : XV mX9_laysDearest 8 [some (vR 65), some (vI a1), some (vI a2)] [] w h Q := by
  refine s_iload_n (pc' := 9) (x := a2) dX9_laysDearest_8 rfl rfl ?_
  refine s_iconst (pc' := 10) dX9_laysDearest_9 rfl ?_
  obtain ⟨z1, V⟩ := V
  obtain ⟨V5, V6⟩ := V
  refine s_icmp_lt (pc' := 13) (tgt := 25) dX9_laysDearest_10 rfl rfl z1 (by decide) (fun c => ?_) (fun c => ?_)
  · have V := V5 c
    refine s_aload_n (pc' := 26) (x := 65) dX9_laysDearest_25 rfl rfl ?_
    refine s_iconst (pc' := 27) dX9_laysDearest_26 rfl ?_
    refine s_put (pc' := 30) (v := vI 0) (x := 0) (kc := 9) (i := 12) dX9_laysDearest_27 clX9 (by decide) fl_9_12 rfl (fa_t65 sA) (fun E => nar_int E _) (fun _ _ => rfl) (j0 := 12) rfl rfl ?_
    obtain ⟨h2, e3⟩ : ∃ q, q = st h 65 12 0 := ⟨_, rfl⟩
    rw [← e3]
    have V := V h2 e3
    refine s_aload_n (pc' := 31) (x := 65) dX9_laysDearest_30 rfl rfl ?_
    refine s_getF (pc' := 34) (b := 76) (kc := 9) (i := 15) dX9_laysDearest_31 clX9 (by decide) fl_9_15 (fa_t65 sA) (fa_f9_15 sA) (fun _ => rfl) rfl ?_
    refine s_iconst (pc' := 35) dX9_laysDearest_34 rfl ?_
    refine s_iald (pc' := 36) dX9_laysDearest_35 (fa_t76 sA) (by decide) (fa_lt76 sA (by decide)) rfl ?_
    refine s_istore_n (pc' := 37) (ls' := [some (vR 65), some (vI a1), some (vI (h2 76 0))]) dX9_laysDearest_36 (by decide) rfl rfl ?_
    refine s_drop 1 (ls' := [some (vR 65), none, some (vI (h2 76 0))]) rfl ?_
    exact V
  · have V := V6 c
    refine s_aload_n (pc' := 14) (x := 65) dX9_laysDearest_13 rfl rfl ?_
    refine s_iload_n (pc' := 15) (x := a2) dX9_laysDearest_14 rfl rfl ?_
    refine s_iload_n (pc' := 16) (x := a1) dX9_laysDearest_15 rfl rfl ?_
    refine s_callV (pc' := 19) (av := [vI a2, vI a1]) (a := 65) (sk := []) (kc := 9) dX9_laysDearest_16 ml_9_122 okX9_laysBest oiX9_laysBest (by decide) (NF := 39) rfl (fa_t65 sA) rfl (Nat.le_of_ble_eq_true rfl) (Nat.le_refl 0) (Nat.le_refl 0) rfl (CV.on V (fun h4 V => ?_))
    refine s_iinc (pc' := 22) (ls' := [some (vR 65), some (vI a1), some (vI (a2 + (-1)))]) dX9_laysDearest_19 rfl (by decide) rfl rfl ?_
    refine s_goto (tgt := 8) dX9_laysDearest_22 rfl ?_
    exact V
set_option maxRecDepth 20000 in
theorem r_X9_laysDearest_37 {w : WS} {h : AH} {Q : AH → Prop} {a2 : Int} (sA : shA w) (V : (inR a2 ∧ ((a2 = (-1) → Q h) ∧ (¬ a2 = (-1) → CV mX9_wakesAt [vR 65, vI a2] w h (fun h2 => (0 ≤ (a2 + 1) ∧ (a2 + 1) < 302 ∧ XV mX9_laysDearest 37 [some (vR 65), none, some (vI (h2 76 (a2 + 1)))] [] w h2 Q)))))) : XV mX9_laysDearest 37 [some (vR 65), none, some (vI a2)] [] w h Q := by
  refine s_iload_n (pc' := 38) (x := a2) dX9_laysDearest_37 rfl rfl ?_
  refine s_iconst (pc' := 39) dX9_laysDearest_38 rfl ?_
  obtain ⟨z1, V⟩ := V
  obtain ⟨V5, V6⟩ := V
  refine s_icmp_eq (pc' := 42) (tgt := 59) dX9_laysDearest_39 rfl rfl z1 (by decide) (fun c => ?_) (fun c => ?_)
  · have V := V5 c
    exact s_vret dX9_laysDearest_59 rfl ⟨rfl, rfl, V⟩
  · have V := V6 c
    refine s_aload_n (pc' := 43) (x := 65) dX9_laysDearest_42 rfl rfl ?_
    refine s_iload_n (pc' := 44) (x := a2) dX9_laysDearest_43 rfl rfl ?_
    refine s_callV (pc' := 47) (av := [vI a2]) (a := 65) (sk := []) (kc := 9) dX9_laysDearest_44 ml_9_111 okX9_wakesAt oiX9_wakesAt (by decide) (NF := 39) rfl (fa_t65 sA) rfl (Nat.le_of_ble_eq_true rfl) (Nat.le_refl 0) (Nat.le_refl 0) rfl (CV.on V (fun h2 V => ?_))
    refine s_aload_n (pc' := 48) (x := 65) dX9_laysDearest_47 rfl rfl ?_
    refine s_getF (pc' := 51) (b := 76) (kc := 9) (i := 15) dX9_laysDearest_48 clX9 (by decide) fl_9_15 (fa_t65 sA) (fa_f9_15 sA) (fun _ => rfl) rfl ?_
    refine s_iload_n (pc' := 52) (x := a2) dX9_laysDearest_51 rfl rfl ?_
    refine s_iconst (pc' := 53) dX9_laysDearest_52 rfl ?_
    refine s_iadd (pc' := 54) dX9_laysDearest_53 rfl ?_
    obtain ⟨z3, z4, V⟩ := V
    refine s_iald (pc' := 55) dX9_laysDearest_54 (fa_t76 sA) z3 (fa_lt76 sA z4) rfl ?_
    refine s_istore_n (pc' := 56) (ls' := [some (vR 65), none, some (vI (h2 76 (a2 + 1)))]) dX9_laysDearest_55 (by decide) rfl rfl ?_
    refine s_goto (tgt := 37) dX9_laysDearest_56 rfl ?_
    exact V
theorem e_X9_laysLive {w : WS} {h : AH} {Q : AH → Prop} {a1 : Int} (X : XV mX9_laysLive 0 [some (vR 65), some (vI a1), none, none] [] w h Q) : CV mX9_laysLive [vR 65, vI a1] w h Q := CA.of (M := mX9_laysLive) (by decide) rfl (Nat.le_of_ble_eq_true rfl) X
set_option maxRecDepth 20000 in
theorem r_X9_laysLive_0 {w : WS} {h : AH} {Q : AH → Prop} {a1 : Int} (sA : shA w) (V : (∀ h1, h1 = st h 65 12 0 → XV mX9_laysLive 9 [some (vR 65), some (vI a1), some (vI (-1)), some (vI 0)] [] w h1 Q)) : XV mX9_laysLive 0 [some (vR 65), some (vI a1), none, none] [] w h Q := by
  refine s_aload_n (pc' := 1) (x := 65) dX9_laysLive_0 rfl rfl ?_
  refine s_iconst (pc' := 2) dX9_laysLive_1 rfl ?_
  refine s_put (pc' := 5) (v := vI 0) (x := 0) (kc := 9) (i := 12) dX9_laysLive_2 clX9 (by decide) fl_9_12 rfl (fa_t65 sA) (fun E => nar_int E _) (fun _ _ => rfl) (j0 := 12) rfl rfl ?_
  obtain ⟨h1, e2⟩ : ∃ q, q = st h 65 12 0 := ⟨_, rfl⟩
  rw [← e2]
  have V := V h1 e2
  refine s_iconst (pc' := 6) dX9_laysLive_5 rfl ?_
  refine s_istore_n (pc' := 7) (ls' := [some (vR 65), some (vI a1), some (vI (-1)), none]) dX9_laysLive_6 (by decide) rfl rfl ?_
  refine s_iconst (pc' := 8) dX9_laysLive_7 rfl ?_
  refine s_istore_n (pc' := 9) (ls' := [some (vR 65), some (vI a1), some (vI (-1)), some (vI 0)]) dX9_laysLive_8 (by decide) rfl rfl ?_
  exact V
set_option maxRecDepth 20000 in
theorem r_X9_laysLive_9 {w : WS} {h : AH} {Q : AH → Prop} {a1 a2 a3 : Int} (sA : shA w) (V : (inR a3 ∧ inR (h 66 98) ∧ (((h 66 98) < a3 → Q h) ∧ (¬ (h 66 98) < a3 → CI mX9_wakesBy [vR 65, vI a1, vI a2, vI a3] w h (fun x4 h3 => (inR x4 ∧ ((¬ x4 = 0 → CV mX9_wakesAt [vR 65, vI a3] w h3 (fun h6 => XV mX9_laysLive 9 [some (vR 65), some (vI a1), some (vI a3), some (vI (a3 + 1))] [] w h6 Q)) ∧ (x4 = 0 → XV mX9_laysLive 9 [some (vR 65), some (vI a1), some (vI a2), some (vI (a3 + 1))] [] w h3 Q)))))))) : XV mX9_laysLive 9 [some (vR 65), some (vI a1), some (vI a2), some (vI a3)] [] w h Q := by
  refine s_iload_n (pc' := 10) (x := a3) dX9_laysLive_9 rfl rfl ?_
  refine s_aload_n (pc' := 11) (x := 65) dX9_laysLive_10 rfl rfl ?_
  refine s_getF (pc' := 14) (b := 66) (kc := 9) (i := 0) dX9_laysLive_11 clX9 (by decide) fl_9_0 (fa_t65 sA) (fa_f9_0 sA) (fun _ => rfl) rfl ?_
  refine s_bipush (pc' := 16) dX9_laysLive_14 (by decide) rfl ?_
  refine s_iald (pc' := 17) dX9_laysLive_16 (fa_t66 sA) (by decide) (fa_lt66 sA (by decide)) rfl ?_
  obtain ⟨z1, z2, V⟩ := V
  obtain ⟨V9, V10⟩ := V
  refine s_icmp_gt (pc' := 20) (tgt := 46) dX9_laysLive_17 rfl rfl z1 z2 (fun c => ?_) (fun c => ?_)
  · have V := V9 c
    exact s_vret dX9_laysLive_46 rfl ⟨rfl, rfl, V⟩
  · have V := V10 c
    refine s_aload_n (pc' := 21) (x := 65) dX9_laysLive_20 rfl rfl ?_
    refine s_iload_n (pc' := 22) (x := a1) dX9_laysLive_21 rfl rfl ?_
    refine s_iload_n (pc' := 23) (x := a2) dX9_laysLive_22 rfl rfl ?_
    refine s_iload_n (pc' := 24) (x := a3) dX9_laysLive_23 rfl rfl ?_
    refine s_callV (pc' := 27) (av := [vI a1, vI a2, vI a3]) (a := 65) (sk := []) (kc := 9) dX9_laysLive_24 ml_9_126 okX9_wakesBy oiX9_wakesBy (by decide) (NF := 39) rfl (fa_t65 sA) rfl (Nat.le_of_ble_eq_true rfl) (Nat.le_refl 0) (Nat.le_refl 0) rfl (CI.on V (fun x4 h3 V => ?_))
    obtain ⟨z5, V⟩ := V
    obtain ⟨V7, V8⟩ := V
    refine s_if_ne (pc' := 30) (tgt := 33) dX9_laysLive_27 rfl rfl z5 (fun c => ?_) (fun c => ?_)
    · have V := V7 c
      refine s_aload_n (pc' := 34) (x := 65) dX9_laysLive_33 rfl rfl ?_
      refine s_iload_n (pc' := 35) (x := a3) dX9_laysLive_34 rfl rfl ?_
      refine s_callV (pc' := 38) (av := [vI a3]) (a := 65) (sk := []) (kc := 9) dX9_laysLive_35 ml_9_111 okX9_wakesAt oiX9_wakesAt (by decide) (NF := 39) rfl (fa_t65 sA) rfl (Nat.le_of_ble_eq_true rfl) (Nat.le_refl 0) (Nat.le_refl 0) rfl (CV.on V (fun h6 V => ?_))
      refine s_iload_n (pc' := 39) (x := a3) dX9_laysLive_38 rfl rfl ?_
      refine s_istore_n (pc' := 40) (ls' := [some (vR 65), some (vI a1), some (vI a3), some (vI a3)]) dX9_laysLive_39 (by decide) rfl rfl ?_
      refine s_iinc (pc' := 43) (ls' := [some (vR 65), some (vI a1), some (vI a3), some (vI (a3 + 1))]) dX9_laysLive_40 rfl (by decide) rfl rfl ?_
      refine s_goto (tgt := 9) dX9_laysLive_43 rfl ?_
      exact V
    · have V := V8 c
      refine s_goto (tgt := 40) dX9_laysLive_30 rfl ?_
      refine s_iinc (pc' := 43) (ls' := [some (vR 65), some (vI a1), some (vI a2), some (vI (a3 + 1))]) dX9_laysLive_40 rfl (by decide) rfl rfl ?_
      refine s_goto (tgt := 9) dX9_laysLive_43 rfl ?_
      exact V
theorem e_X9_waitsAll {w : WS} {h : AH} {Q : Int → AH → Prop} (X : XI mX9_waitsAll 0 [some (vR 65), none, none] [] w h Q) : CI mX9_waitsAll [vR 65] w h Q := CA.of (M := mX9_waitsAll) (by decide) rfl (Nat.le_of_ble_eq_true rfl) X
set_option maxRecDepth 20000 in
theorem r_X9_waitsAll_0 {w : WS} {h : AH} {Q : Int → AH → Prop} (sA : shA w) (V : XI mX9_waitsAll 4 [some (vR 65), some (vI 0), some (vI 0)] [] w h Q) : XI mX9_waitsAll 0 [some (vR 65), none, none] [] w h Q := by
  refine s_iconst (pc' := 1) dX9_waitsAll_0 rfl ?_
  refine s_istore_n (pc' := 2) (ls' := [some (vR 65), some (vI 0), none]) dX9_waitsAll_1 (by decide) rfl rfl ?_
  refine s_iconst (pc' := 3) dX9_waitsAll_2 rfl ?_
  refine s_istore_n (pc' := 4) (ls' := [some (vR 65), some (vI 0), some (vI 0)]) dX9_waitsAll_3 (by decide) rfl rfl ?_
  exact V
set_option maxRecDepth 20000 in
theorem r_X9_waitsAll_4 {w : WS} {h : AH} {Q : Int → AH → Prop} {a1 a2 : Int} (sA : shA w) (V : (inR a2 ∧ inR (h 65 10) ∧ (((h 65 10) ≤ a2 → Q a1 h) ∧ (¬ (h 65 10) ≤ a2 → (0 ≤ a2 ∧ a2 < 300 ∧ CI mX9_answers [vR 65, vI (h 69 a2)] w h (fun x6 h5 => (∀ y7, y7 = (a1 + ((h 71 a2) * (x6 - (h5 69 a2)))) → XI mX9_waitsAll 4 [some (vR 65), some (vI y7), some (vI (a2 + 1))] [] w h5 Q))))))) : XI mX9_waitsAll 4 [some (vR 65), some (vI a1), some (vI a2)] [] w h Q := by
  refine s_iload_n (pc' := 5) (x := a2) dX9_waitsAll_4 rfl rfl ?_
  refine s_aload_n (pc' := 6) (x := 65) dX9_waitsAll_5 rfl rfl ?_
  refine s_get (pc' := 9) (v := vI (h 65 10)) (kc := 9) (i := 10) dX9_waitsAll_6 clX9 (by decide) fl_9_10 (fa_t65 sA) (fun _ => rfl) rfl ?_
  obtain ⟨z1, z2, V⟩ := V
  obtain ⟨V9, V10⟩ := V
  refine s_icmp_ge (pc' := 12) (tgt := 45) dX9_waitsAll_9 rfl rfl z1 z2 (fun c => ?_) (fun c => ?_)
  · have V := V9 c
    refine s_iload_n (pc' := 46) (x := a1) dX9_waitsAll_45 rfl rfl ?_
    exact s_iret dX9_waitsAll_46 rfl ⟨_, rfl, rfl, V⟩
  · have V := V10 c
    refine s_iload_n (pc' := 13) (x := a1) dX9_waitsAll_12 rfl rfl ?_
    refine s_aload_n (pc' := 14) (x := 65) dX9_waitsAll_13 rfl rfl ?_
    refine s_getF (pc' := 17) (b := 71) (kc := 9) (i := 8) dX9_waitsAll_14 clX9 (by decide) fl_9_8 (fa_t65 sA) (fa_f9_8 sA) (fun _ => rfl) rfl ?_
    refine s_iload_n (pc' := 18) (x := a2) dX9_waitsAll_17 rfl rfl ?_
    obtain ⟨z3, z4, V⟩ := V
    refine s_iald (pc' := 19) dX9_waitsAll_18 (fa_t71 sA) z3 (fa_lt71 sA z4) rfl ?_
    refine s_aload_n (pc' := 20) (x := 65) dX9_waitsAll_19 rfl rfl ?_
    refine s_aload_n (pc' := 21) (x := 65) dX9_waitsAll_20 rfl rfl ?_
    refine s_getF (pc' := 24) (b := 69) (kc := 9) (i := 6) dX9_waitsAll_21 clX9 (by decide) fl_9_6 (fa_t65 sA) (fa_f9_6 sA) (fun _ => rfl) rfl ?_
    refine s_iload_n (pc' := 25) (x := a2) dX9_waitsAll_24 rfl rfl ?_
    refine s_iald (pc' := 26) dX9_waitsAll_25 (fa_t69 sA) z3 (fa_lt69 sA z4) rfl ?_
    refine s_callV (pc' := 29) (av := [vI (h 69 a2)]) (a := 65) (sk := [vI (h 71 a2), vI a1]) (kc := 9) dX9_waitsAll_26 ml_9_142 okX9_answers oiX9_answers (by decide) (NF := 39) rfl (fa_t65 sA) rfl (Nat.le_of_ble_eq_true rfl) (Nat.le_refl 0) (Nat.le_refl 0) rfl (CI.on V (fun x6 h5 V => ?_))
    refine s_aload_n (pc' := 30) (x := 65) dX9_waitsAll_29 rfl rfl ?_
    refine s_getF (pc' := 33) (b := 69) (kc := 9) (i := 6) dX9_waitsAll_30 clX9 (by decide) fl_9_6 (fa_t65 sA) (fa_f9_6 sA) (fun _ => rfl) rfl ?_
    refine s_iload_n (pc' := 34) (x := a2) dX9_waitsAll_33 rfl rfl ?_
    refine s_iald (pc' := 35) dX9_waitsAll_34 (fa_t69 sA) z3 (fa_lt69 sA z4) rfl ?_
    refine s_isub (pc' := 36) dX9_waitsAll_35 rfl ?_
    refine s_imul (pc' := 37) dX9_waitsAll_36 rfl ?_
    refine s_iadd (pc' := 38) dX9_waitsAll_37 rfl ?_
    obtain ⟨y7, e8⟩ : ∃ q, q = (a1 + ((h 71 a2) * (x6 - (h5 69 a2)))) := ⟨_, rfl⟩
    rw [← e8]
    have V := V y7 e8
    refine s_istore_n (pc' := 39) (ls' := [some (vR 65), some (vI y7), some (vI a2)]) dX9_waitsAll_38 (by decide) rfl rfl ?_
    refine s_iinc (pc' := 42) (ls' := [some (vR 65), some (vI y7), some (vI (a2 + 1))]) dX9_waitsAll_39 rfl (by decide) rfl rfl ?_
    refine s_goto (tgt := 4) dX9_waitsAll_42 rfl ?_
    exact V
theorem e_X9_energy {w : WS} {h : AH} {Q : Int → AH → Prop} (X : XI mX9_energy 0 [some (vR 65), none, none] [] w h Q) : CI mX9_energy [vR 65] w h Q := CA.of (M := mX9_energy) (by decide) rfl (Nat.le_of_ble_eq_true rfl) X
set_option maxRecDepth 20000 in
theorem r_X9_energy_0 {w : WS} {h : AH} {Q : Int → AH → Prop} (sA : shA w) (V : XI mX9_energy 4 [some (vR 65), some (vI 0), some (vI 0)] [] w h Q) : XI mX9_energy 0 [some (vR 65), none, none] [] w h Q := by
  refine s_iconst (pc' := 1) dX9_energy_0 rfl ?_
  refine s_istore_n (pc' := 2) (ls' := [some (vR 65), some (vI 0), none]) dX9_energy_1 (by decide) rfl rfl ?_
  refine s_iconst (pc' := 3) dX9_energy_2 rfl ?_
  refine s_istore_n (pc' := 4) (ls' := [some (vR 65), some (vI 0), some (vI 0)]) dX9_energy_3 (by decide) rfl rfl ?_
  exact V
set_option maxRecDepth 20000 in
theorem r_X9_energy_4 {w : WS} {h : AH} {Q : Int → AH → Prop} {a1 a2 : Int} (sA : shA w) (V : (inR a2 ∧ inR (h 65 12) ∧ (((h 65 12) ≤ a2 → Q a1 h) ∧ (¬ (h 65 12) ≤ a2 → ((¬ a2 = 0 → (0 ≤ (a2 - 1) ∧ (a2 - 1) < 302 ∧ (0 ≤ a2 ∧ a2 < 302 ∧ CI mX9_stay [vR 65, vI (h 73 (a2 - 1)), vI (h 73 a2)] w h (fun x8 h7 => XI mX9_energy 4 [some (vR 65), some (vI (a1 + x8)), some (vI (a2 + 1))] [] w h7 Q)))) ∧ (a2 = 0 → (0 ≤ a2 ∧ a2 < 302 ∧ CI mX9_stay [vR 65, vI (-1), vI (h 73 a2)] w h (fun x12 h11 => XI mX9_energy 4 [some (vR 65), some (vI (a1 + x12)), some (vI (a2 + 1))] [] w h11 Q)))))))) : XI mX9_energy 4 [some (vR 65), some (vI a1), some (vI a2)] [] w h Q := by
  refine s_iload_n (pc' := 5) (x := a2) dX9_energy_4 rfl rfl ?_
  refine s_aload_n (pc' := 6) (x := 65) dX9_energy_5 rfl rfl ?_
  refine s_get (pc' := 9) (v := vI (h 65 12)) (kc := 9) (i := 12) dX9_energy_6 clX9 (by decide) fl_9_12 (fa_t65 sA) (fun _ => rfl) rfl ?_
  obtain ⟨z1, z2, V⟩ := V
  obtain ⟨V15, V16⟩ := V
  refine s_icmp_ge (pc' := 12) (tgt := 47) dX9_energy_9 rfl rfl z1 z2 (fun c => ?_) (fun c => ?_)
  · have V := V15 c
    refine s_iload_n (pc' := 48) (x := a1) dX9_energy_47 rfl rfl ?_
    exact s_iret dX9_energy_48 rfl ⟨_, rfl, rfl, V⟩
  · have V := V16 c
    refine s_iload_n (pc' := 13) (x := a1) dX9_energy_12 rfl rfl ?_
    refine s_aload_n (pc' := 14) (x := 65) dX9_energy_13 rfl rfl ?_
    refine s_iload_n (pc' := 15) (x := a2) dX9_energy_14 rfl rfl ?_
    obtain ⟨V13, V14⟩ := V
    refine s_if_ne (pc' := 18) (tgt := 22) dX9_energy_15 rfl rfl z1 (fun c => ?_) (fun c => ?_)
    · have V := V13 c
      refine s_aload_n (pc' := 23) (x := 65) dX9_energy_22 rfl rfl ?_
      refine s_getF (pc' := 26) (b := 73) (kc := 9) (i := 11) dX9_energy_23 clX9 (by decide) fl_9_11 (fa_t65 sA) (fa_f9_11 sA) (fun _ => rfl) rfl ?_
      refine s_iload_n (pc' := 27) (x := a2) dX9_energy_26 rfl rfl ?_
      refine s_iconst (pc' := 28) dX9_energy_27 rfl ?_
      refine s_isub (pc' := 29) dX9_energy_28 rfl ?_
      obtain ⟨z3, z4, V⟩ := V
      refine s_iald (pc' := 30) dX9_energy_29 (fa_t73 sA) z3 (fa_lt73 sA z4) rfl ?_
      refine s_aload_n (pc' := 31) (x := 65) dX9_energy_30 rfl rfl ?_
      refine s_getF (pc' := 34) (b := 73) (kc := 9) (i := 11) dX9_energy_31 clX9 (by decide) fl_9_11 (fa_t65 sA) (fa_f9_11 sA) (fun _ => rfl) rfl ?_
      refine s_iload_n (pc' := 35) (x := a2) dX9_energy_34 rfl rfl ?_
      obtain ⟨z5, z6, V⟩ := V
      refine s_iald (pc' := 36) dX9_energy_35 (fa_t73 sA) z5 (fa_lt73 sA z6) rfl ?_
      refine s_callV (pc' := 39) (av := [vI (h 73 (a2 - 1)), vI (h 73 a2)]) (a := 65) (sk := [vI a1]) (kc := 9) dX9_energy_36 ml_9_116 okX9_stay oiX9_stay (by decide) (NF := 39) rfl (fa_t65 sA) rfl (Nat.le_of_ble_eq_true rfl) (Nat.le_refl 0) (Nat.le_refl 0) rfl (CI.on V (fun x8 h7 V => ?_))
      refine s_iadd (pc' := 40) dX9_energy_39 rfl ?_
      refine s_istore_n (pc' := 41) (ls' := [some (vR 65), some (vI (a1 + x8)), some (vI a2)]) dX9_energy_40 (by decide) rfl rfl ?_
      refine s_iinc (pc' := 44) (ls' := [some (vR 65), some (vI (a1 + x8)), some (vI (a2 + 1))]) dX9_energy_41 rfl (by decide) rfl rfl ?_
      refine s_goto (tgt := 4) dX9_energy_44 rfl ?_
      exact V
    · have V := V14 c
      refine s_iconst (pc' := 19) dX9_energy_18 rfl ?_
      refine s_goto (tgt := 30) dX9_energy_19 rfl ?_
      refine s_aload_n (pc' := 31) (x := 65) dX9_energy_30 rfl rfl ?_
      refine s_getF (pc' := 34) (b := 73) (kc := 9) (i := 11) dX9_energy_31 clX9 (by decide) fl_9_11 (fa_t65 sA) (fa_f9_11 sA) (fun _ => rfl) rfl ?_
      refine s_iload_n (pc' := 35) (x := a2) dX9_energy_34 rfl rfl ?_
      obtain ⟨z9, z10, V⟩ := V
      refine s_iald (pc' := 36) dX9_energy_35 (fa_t73 sA) z9 (fa_lt73 sA z10) rfl ?_
      refine s_callV (pc' := 39) (av := [vI (-1), vI (h 73 a2)]) (a := 65) (sk := [vI a1]) (kc := 9) dX9_energy_36 ml_9_116 okX9_stay oiX9_stay (by decide) (NF := 39) rfl (fa_t65 sA) rfl (Nat.le_of_ble_eq_true rfl) (Nat.le_refl 0) (Nat.le_refl 0) rfl (CI.on V (fun x12 h11 V => ?_))
      refine s_iadd (pc' := 40) dX9_energy_39 rfl ?_
      refine s_istore_n (pc' := 41) (ls' := [some (vR 65), some (vI (a1 + x12)), some (vI a2)]) dX9_energy_40 (by decide) rfl rfl ?_
      refine s_iinc (pc' := 44) (ls' := [some (vR 65), some (vI (a1 + x12)), some (vI (a2 + 1))]) dX9_energy_41 rfl (by decide) rfl rfl ?_
      refine s_goto (tgt := 4) dX9_energy_44 rfl ?_
      exact V
theorem e_X9_liveEnergy {w : WS} {h : AH} {Q : Int → AH → Prop} (X : XI mX9_liveEnergy 0 [some (vR 65), none, none, none] [] w h Q) : CI mX9_liveEnergy [vR 65] w h Q := CA.of (M := mX9_liveEnergy) (by decide) rfl (Nat.le_of_ble_eq_true rfl) X
set_option maxRecDepth 20000 in
theorem r_X9_liveEnergy_0 {w : WS} {h : AH} {Q : Int → AH → Prop} (sA : shA w) (V : XI mX9_liveEnergy 4 [some (vR 65), some (vI 0), some (vI 0), none] [] w h Q) : XI mX9_liveEnergy 0 [some (vR 65), none, none, none] [] w h Q := by
  refine s_iconst (pc' := 1) dX9_liveEnergy_0 rfl ?_
  refine s_istore_n (pc' := 2) (ls' := [some (vR 65), some (vI 0), none, none]) dX9_liveEnergy_1 (by decide) rfl rfl ?_
  refine s_iconst (pc' := 3) dX9_liveEnergy_2 rfl ?_
  refine s_istore_n (pc' := 4) (ls' := [some (vR 65), some (vI 0), some (vI 0), none]) dX9_liveEnergy_3 (by decide) rfl rfl ?_
  exact V
set_option maxRecDepth 20000 in
theorem r_X9_liveEnergy_4 {w : WS} {h : AH} {Q : Int → AH → Prop} {a1 a2 : Int} (sA : shA w) (V : (inR a2 ∧ inR (h 65 12) ∧ (((h 65 12) ≤ a2 → ((¬ (h 65 12) = 0 → (0 ≤ ((h 65 12) - 1) ∧ ((h 65 12) - 1) < 302 ∧ (∀ y5, y5 = ((h 66 98) - (h 73 ((h 65 12) - 1))) → ((0 ≤ h 66 99 ∧ h 66 99 ≤ 99) ∧ (0 ≤ h 66 100 ∧ h 66 100 ≤ 20) ∧ (inR y5 ∧ inR (awk (h 66 99) (h 66 100)) ∧ (((awk (h 66 99) (h 66 100)) ≤ y5 → Q (a1 + ((h 66 100) * (awk (h 66 99) (h 66 100)))) h) ∧ (¬ (awk (h 66 99) (h 66 100)) ≤ y5 → Q (a1 + ((h 66 100) * y5)) h))))))) ∧ ((h 65 12) = 0 → Q 0 h))) ∧ (¬ (h 65 12) ≤ a2 → ((¬ a2 = 0 → (0 ≤ a2 ∧ a2 < 302 ∧ (0 ≤ (a2 - 1) ∧ (a2 - 1) < 302 ∧ (∀ y19, y19 = ((h 73 a2) - (h 73 (a2 - 1))) → XI mX9_liveEnergy 41 [some (vR 65), some (vI a1), some (vI a2), some (vI y19)] [] w h Q)))) ∧ (a2 = 0 → ((0 ≤ h 66 99 ∧ h 66 99 ≤ 99) ∧ (0 ≤ h 66 100 ∧ h 66 100 ≤ 20) ∧ (∀ y23, y23 = ((awk (h 66 99) (h 66 100)) + 1) → XI mX9_liveEnergy 41 [some (vR 65), some (vI a1), some (vI a2), some (vI y23)] [] w h Q)))))))) : XI mX9_liveEnergy 4 [some (vR 65), some (vI a1), some (vI a2), none] [] w h Q := by
  refine s_iload_n (pc' := 5) (x := a2) dX9_liveEnergy_4 rfl rfl ?_
  refine s_aload_n (pc' := 6) (x := 65) dX9_liveEnergy_5 rfl rfl ?_
  refine s_get (pc' := 9) (v := vI (h 65 12)) (kc := 9) (i := 12) dX9_liveEnergy_6 clX9 (by decide) fl_9_12 (fa_t65 sA) (fun _ => rfl) rfl ?_
  obtain ⟨z1, z2, V⟩ := V
  obtain ⟨V27, V28⟩ := V
  refine s_icmp_ge (pc' := 12) (tgt := 107) dX9_liveEnergy_9 rfl rfl z1 z2 (fun c => ?_) (fun c => ?_)
  · have V := V27 c
    refine s_aload_n (pc' := 108) (x := 65) dX9_liveEnergy_107 rfl rfl ?_
    refine s_get (pc' := 111) (v := vI (h 65 12)) (kc := 9) (i := 12) dX9_liveEnergy_108 clX9 (by decide) fl_9_12 (fa_t65 sA) (fun _ => rfl) rfl ?_
    obtain ⟨V13, V14⟩ := V
    refine s_if_ne (pc' := 114) (tgt := 116) dX9_liveEnergy_111 rfl rfl z2 (fun c => ?_) (fun c => ?_)
    · have V := V13 c
      refine s_aload_n (pc' := 117) (x := 65) dX9_liveEnergy_116 rfl rfl ?_
      refine s_getF (pc' := 120) (b := 66) (kc := 9) (i := 0) dX9_liveEnergy_117 clX9 (by decide) fl_9_0 (fa_t65 sA) (fa_f9_0 sA) (fun _ => rfl) rfl ?_
      refine s_bipush (pc' := 122) dX9_liveEnergy_120 (by decide) rfl ?_
      refine s_iald (pc' := 123) dX9_liveEnergy_122 (fa_t66 sA) (by decide) (fa_lt66 sA (by decide)) rfl ?_
      refine s_aload_n (pc' := 124) (x := 65) dX9_liveEnergy_123 rfl rfl ?_
      refine s_getF (pc' := 127) (b := 73) (kc := 9) (i := 11) dX9_liveEnergy_124 clX9 (by decide) fl_9_11 (fa_t65 sA) (fa_f9_11 sA) (fun _ => rfl) rfl ?_
      refine s_aload_n (pc' := 128) (x := 65) dX9_liveEnergy_127 rfl rfl ?_
      refine s_get (pc' := 131) (v := vI (h 65 12)) (kc := 9) (i := 12) dX9_liveEnergy_128 clX9 (by decide) fl_9_12 (fa_t65 sA) (fun _ => rfl) rfl ?_
      refine s_iconst (pc' := 132) dX9_liveEnergy_131 rfl ?_
      refine s_isub (pc' := 133) dX9_liveEnergy_132 rfl ?_
      obtain ⟨z3, z4, V⟩ := V
      refine s_iald (pc' := 134) dX9_liveEnergy_133 (fa_t73 sA) z3 (fa_lt73 sA z4) rfl ?_
      refine s_isub (pc' := 135) dX9_liveEnergy_134 rfl ?_
      obtain ⟨y5, e6⟩ : ∃ q, q = ((h 66 98) - (h 73 ((h 65 12) - 1))) := ⟨_, rfl⟩
      rw [← e6]
      have V := V y5 e6
      refine s_istore_n (pc' := 136) (ls' := [some (vR 65), some (vI a1), some (vI y5), none]) dX9_liveEnergy_135 (by decide) rfl rfl ?_
      refine s_iload_n (pc' := 137) (x := a1) dX9_liveEnergy_136 rfl rfl ?_
      refine s_aload_n (pc' := 138) (x := 65) dX9_liveEnergy_137 rfl rfl ?_
      refine s_getF (pc' := 141) (b := 66) (kc := 9) (i := 0) dX9_liveEnergy_138 clX9 (by decide) fl_9_0 (fa_t65 sA) (fa_f9_0 sA) (fun _ => rfl) rfl ?_
      refine s_bipush (pc' := 143) dX9_liveEnergy_141 (by decide) rfl ?_
      refine s_iald (pc' := 144) dX9_liveEnergy_143 (fa_t66 sA) (by decide) (fa_lt66 sA (by decide)) rfl ?_
      refine s_iload_n (pc' := 145) (x := y5) dX9_liveEnergy_144 rfl rfl ?_
      refine s_aload_n (pc' := 146) (x := 65) dX9_liveEnergy_145 rfl rfl ?_
      obtain ⟨z7, z8, V⟩ := V
      refine s_callV (pc' := 149) (av := []) (a := 65) (sk := [vI y5, vI (h 66 100), vI a1]) (kc := 9) dX9_liveEnergy_146 ml_9_145 okX9_awake oiX9_awake (by decide) (NF := 39) rfl (fa_t65 sA) rfl (Nat.le_of_ble_eq_true rfl) (Nat.le_refl 0) (Nat.le_refl 0) rfl (CI.eon (c_X9_awakeI sA z7 z8) ?_)
      obtain ⟨z9, z10, V⟩ := V
      obtain ⟨V11, V12⟩ := V
      refine s_icmp_ge (pc' := 152) (tgt := 156) dX9_liveEnergy_149 rfl rfl z9 z10 (fun c => ?_) (fun c => ?_)
      · have V := V11 c
        refine s_aload_n (pc' := 157) (x := 65) dX9_liveEnergy_156 rfl rfl ?_
        refine s_callV (pc' := 160) (av := []) (a := 65) (sk := [vI (h 66 100), vI a1]) (kc := 9) dX9_liveEnergy_157 ml_9_145 okX9_awake oiX9_awake (by decide) (NF := 39) rfl (fa_t65 sA) rfl (Nat.le_of_ble_eq_true rfl) (Nat.le_refl 0) (Nat.le_refl 0) rfl (CI.eon (c_X9_awakeI sA z7 z8) ?_)
        refine s_imul (pc' := 161) dX9_liveEnergy_160 rfl ?_
        refine s_iadd (pc' := 162) dX9_liveEnergy_161 rfl ?_
        exact s_iret dX9_liveEnergy_162 rfl ⟨_, rfl, rfl, V⟩
      · have V := V12 c
        refine s_iload_n (pc' := 153) (x := y5) dX9_liveEnergy_152 rfl rfl ?_
        refine s_goto (tgt := 160) dX9_liveEnergy_153 rfl ?_
        refine s_imul (pc' := 161) dX9_liveEnergy_160 rfl ?_
        refine s_iadd (pc' := 162) dX9_liveEnergy_161 rfl ?_
        exact s_iret dX9_liveEnergy_162 rfl ⟨_, rfl, rfl, V⟩
    · have V := V14 c
      refine s_iconst (pc' := 115) dX9_liveEnergy_114 rfl ?_
      exact s_iret dX9_liveEnergy_115 rfl ⟨_, rfl, rfl, V⟩
  · have V := V28 c
    refine s_iload_n (pc' := 13) (x := a2) dX9_liveEnergy_12 rfl rfl ?_
    obtain ⟨V25, V26⟩ := V
    refine s_if_ne (pc' := 16) (tgt := 25) dX9_liveEnergy_13 rfl rfl z1 (fun c => ?_) (fun c => ?_)
    · have V := V25 c
      refine s_aload_n (pc' := 26) (x := 65) dX9_liveEnergy_25 rfl rfl ?_
      refine s_getF (pc' := 29) (b := 73) (kc := 9) (i := 11) dX9_liveEnergy_26 clX9 (by decide) fl_9_11 (fa_t65 sA) (fa_f9_11 sA) (fun _ => rfl) rfl ?_
      refine s_iload_n (pc' := 30) (x := a2) dX9_liveEnergy_29 rfl rfl ?_
      obtain ⟨z15, z16, V⟩ := V
      refine s_iald (pc' := 31) dX9_liveEnergy_30 (fa_t73 sA) z15 (fa_lt73 sA z16) rfl ?_
      refine s_aload_n (pc' := 32) (x := 65) dX9_liveEnergy_31 rfl rfl ?_
      refine s_getF (pc' := 35) (b := 73) (kc := 9) (i := 11) dX9_liveEnergy_32 clX9 (by decide) fl_9_11 (fa_t65 sA) (fa_f9_11 sA) (fun _ => rfl) rfl ?_
      refine s_iload_n (pc' := 36) (x := a2) dX9_liveEnergy_35 rfl rfl ?_
      refine s_iconst (pc' := 37) dX9_liveEnergy_36 rfl ?_
      refine s_isub (pc' := 38) dX9_liveEnergy_37 rfl ?_
      obtain ⟨z17, z18, V⟩ := V
      refine s_iald (pc' := 39) dX9_liveEnergy_38 (fa_t73 sA) z17 (fa_lt73 sA z18) rfl ?_
      refine s_isub (pc' := 40) dX9_liveEnergy_39 rfl ?_
      obtain ⟨y19, e20⟩ : ∃ q, q = ((h 73 a2) - (h 73 (a2 - 1))) := ⟨_, rfl⟩
      rw [← e20]
      have V := V y19 e20
      refine s_istore_n (pc' := 41) (ls' := [some (vR 65), some (vI a1), some (vI a2), some (vI y19)]) dX9_liveEnergy_40 (by decide) rfl rfl ?_
      exact V
    · have V := V26 c
      refine s_aload_n (pc' := 17) (x := 65) dX9_liveEnergy_16 rfl rfl ?_
      obtain ⟨z21, z22, V⟩ := V
      refine s_callV (pc' := 20) (av := []) (a := 65) (sk := []) (kc := 9) dX9_liveEnergy_17 ml_9_145 okX9_awake oiX9_awake (by decide) (NF := 39) rfl (fa_t65 sA) rfl (Nat.le_of_ble_eq_true rfl) (Nat.le_refl 0) (Nat.le_refl 0) rfl (CI.eon (c_X9_awakeI sA z21 z22) ?_)
      refine s_iconst (pc' := 21) dX9_liveEnergy_20 rfl ?_
      refine s_iadd (pc' := 22) dX9_liveEnergy_21 rfl ?_
      refine s_goto (tgt := 40) dX9_liveEnergy_22 rfl ?_
      obtain ⟨y23, e24⟩ : ∃ q, q = ((awk (h 66 99) (h 66 100)) + 1) := ⟨_, rfl⟩
      rw [← e24]
      have V := V y23 e24
      refine s_istore_n (pc' := 41) (ls' := [some (vR 65), some (vI a1), some (vI a2), some (vI y23)]) dX9_liveEnergy_40 (by decide) rfl rfl ?_
      exact V
set_option maxRecDepth 20000 in
theorem r_X9_liveEnergy_41 {w : WS} {h : AH} {Q : Int → AH → Prop} {a1 a2 a3 : Int} (sA : shA w) (V : (inR a2 ∧ ((¬ a2 = 0 → ((0 ≤ h 66 99 ∧ h 66 99 ≤ 99) ∧ (0 ≤ h 66 100 ∧ h 66 100 ≤ 20) ∧ (inR a3 ∧ inR (awk (h 66 99) (h 66 100)) ∧ (((awk (h 66 99) (h 66 100)) < a3 → (∀ y6, y6 = (a1 + (((h 66 100) * (awk (h 66 99) (h 66 100))) + (h 66 99))) → XI mX9_liveEnergy 101 [some (vR 65), some (vI y6), some (vI a2), none] [] w h Q)) ∧ (¬ (awk (h 66 99) (h 66 100)) < a3 → XI mX9_liveEnergy 101 [some (vR 65), some (vI (a1 + ((h 66 100) * a3))), some (vI a2), none] [] w h Q))))) ∧ (a2 = 0 → XI mX9_liveEnergy 101 [some (vR 65), some (vI (a1 + (h 66 99))), some (vI a2), none] [] w h Q)))) : XI mX9_liveEnergy 41 [some (vR 65), some (vI a1), some (vI a2), some (vI a3)] [] w h Q := by
  refine s_iload_n (pc' := 42) (x := a2) dX9_liveEnergy_41 rfl rfl ?_
  obtain ⟨z1, V⟩ := V
  obtain ⟨V10, V11⟩ := V
  refine s_if_ne (pc' := 45) (tgt := 58) dX9_liveEnergy_42 rfl rfl z1 (fun c => ?_) (fun c => ?_)
  · have V := V10 c
    refine s_iload_n (pc' := 59) (x := a1) dX9_liveEnergy_58 rfl rfl ?_
    refine s_iload_n (pc' := 60) (x := a3) dX9_liveEnergy_59 rfl rfl ?_
    refine s_aload_n (pc' := 61) (x := 65) dX9_liveEnergy_60 rfl rfl ?_
    obtain ⟨z2, z3, V⟩ := V
    refine s_callV (pc' := 64) (av := []) (a := 65) (sk := [vI a3, vI a1]) (kc := 9) dX9_liveEnergy_61 ml_9_145 okX9_awake oiX9_awake (by decide) (NF := 39) rfl (fa_t65 sA) rfl (Nat.le_of_ble_eq_true rfl) (Nat.le_refl 0) (Nat.le_refl 0) rfl (CI.eon (c_X9_awakeI sA z2 z3) ?_)
    obtain ⟨z4, z5, V⟩ := V
    obtain ⟨V8, V9⟩ := V
    refine s_icmp_gt (pc' := 67) (tgt := 79) dX9_liveEnergy_64 rfl rfl z4 z5 (fun c => ?_) (fun c => ?_)
    · have V := V8 c
      refine s_aload_n (pc' := 80) (x := 65) dX9_liveEnergy_79 rfl rfl ?_
      refine s_getF (pc' := 83) (b := 66) (kc := 9) (i := 0) dX9_liveEnergy_80 clX9 (by decide) fl_9_0 (fa_t65 sA) (fa_f9_0 sA) (fun _ => rfl) rfl ?_
      refine s_bipush (pc' := 85) dX9_liveEnergy_83 (by decide) rfl ?_
      refine s_iald (pc' := 86) dX9_liveEnergy_85 (fa_t66 sA) (by decide) (fa_lt66 sA (by decide)) rfl ?_
      refine s_aload_n (pc' := 87) (x := 65) dX9_liveEnergy_86 rfl rfl ?_
      refine s_callV (pc' := 90) (av := []) (a := 65) (sk := [vI (h 66 100), vI a1]) (kc := 9) dX9_liveEnergy_87 ml_9_145 okX9_awake oiX9_awake (by decide) (NF := 39) rfl (fa_t65 sA) rfl (Nat.le_of_ble_eq_true rfl) (Nat.le_refl 0) (Nat.le_refl 0) rfl (CI.eon (c_X9_awakeI sA z2 z3) ?_)
      refine s_imul (pc' := 91) dX9_liveEnergy_90 rfl ?_
      refine s_aload_n (pc' := 92) (x := 65) dX9_liveEnergy_91 rfl rfl ?_
      refine s_getF (pc' := 95) (b := 66) (kc := 9) (i := 0) dX9_liveEnergy_92 clX9 (by decide) fl_9_0 (fa_t65 sA) (fa_f9_0 sA) (fun _ => rfl) rfl ?_
      refine s_bipush (pc' := 97) dX9_liveEnergy_95 (by decide) rfl ?_
      refine s_iald (pc' := 98) dX9_liveEnergy_97 (fa_t66 sA) (by decide) (fa_lt66 sA (by decide)) rfl ?_
      refine s_iadd (pc' := 99) dX9_liveEnergy_98 rfl ?_
      refine s_iadd (pc' := 100) dX9_liveEnergy_99 rfl ?_
      obtain ⟨y6, e7⟩ : ∃ q, q = (a1 + (((h 66 100) * (awk (h 66 99) (h 66 100))) + (h 66 99))) := ⟨_, rfl⟩
      rw [← e7]
      have V := V y6 e7
      refine s_istore_n (pc' := 101) (ls' := [some (vR 65), some (vI y6), some (vI a2), some (vI a3)]) dX9_liveEnergy_100 (by decide) rfl rfl ?_
      refine s_drop 3 (ls' := [some (vR 65), some (vI y6), some (vI a2), none]) rfl ?_
      exact V
    · have V := V9 c
      refine s_aload_n (pc' := 68) (x := 65) dX9_liveEnergy_67 rfl rfl ?_
      refine s_getF (pc' := 71) (b := 66) (kc := 9) (i := 0) dX9_liveEnergy_68 clX9 (by decide) fl_9_0 (fa_t65 sA) (fa_f9_0 sA) (fun _ => rfl) rfl ?_
      refine s_bipush (pc' := 73) dX9_liveEnergy_71 (by decide) rfl ?_
      refine s_iald (pc' := 74) dX9_liveEnergy_73 (fa_t66 sA) (by decide) (fa_lt66 sA (by decide)) rfl ?_
      refine s_iload_n (pc' := 75) (x := a3) dX9_liveEnergy_74 rfl rfl ?_
      refine s_imul (pc' := 76) dX9_liveEnergy_75 rfl ?_
      refine s_goto (tgt := 99) dX9_liveEnergy_76 rfl ?_
      refine s_iadd (pc' := 100) dX9_liveEnergy_99 rfl ?_
      refine s_istore_n (pc' := 101) (ls' := [some (vR 65), some (vI (a1 + ((h 66 100) * a3))), some (vI a2), some (vI a3)]) dX9_liveEnergy_100 (by decide) rfl rfl ?_
      refine s_drop 3 (ls' := [some (vR 65), some (vI (a1 + ((h 66 100) * a3))), some (vI a2), none]) rfl ?_
      exact V
  · have V := V11 c
    refine s_iload_n (pc' := 46) (x := a1) dX9_liveEnergy_45 rfl rfl ?_
    refine s_aload_n (pc' := 47) (x := 65) dX9_liveEnergy_46 rfl rfl ?_
    refine s_getF (pc' := 50) (b := 66) (kc := 9) (i := 0) dX9_liveEnergy_47 clX9 (by decide) fl_9_0 (fa_t65 sA) (fa_f9_0 sA) (fun _ => rfl) rfl ?_
    refine s_bipush (pc' := 52) dX9_liveEnergy_50 (by decide) rfl ?_
    refine s_iald (pc' := 53) dX9_liveEnergy_52 (fa_t66 sA) (by decide) (fa_lt66 sA (by decide)) rfl ?_
    refine s_iadd (pc' := 54) dX9_liveEnergy_53 rfl ?_
    refine s_istore_n (pc' := 55) (ls' := [some (vR 65), some (vI (a1 + (h 66 99))), some (vI a2), some (vI a3)]) dX9_liveEnergy_54 (by decide) rfl rfl ?_
    refine s_goto (tgt := 101) dX9_liveEnergy_55 rfl ?_
    refine s_drop 3 (ls' := [some (vR 65), some (vI (a1 + (h 66 99))), some (vI a2), none]) rfl ?_
    exact V
set_option maxRecDepth 20000 in
theorem r_X9_liveEnergy_101 {w : WS} {h : AH} {Q : Int → AH → Prop} {a1 a2 : Int} (sA : shA w) (V : XI mX9_liveEnergy 4 [some (vR 65), some (vI a1), some (vI (a2 + 1)), none] [] w h Q) : XI mX9_liveEnergy 101 [some (vR 65), some (vI a1), some (vI a2), none] [] w h Q := by
  refine s_iinc (pc' := 104) (ls' := [some (vR 65), some (vI a1), some (vI (a2 + 1)), none]) dX9_liveEnergy_101 rfl (by decide) rfl rfl ?_
  refine s_goto (tgt := 4) dX9_liveEnergy_104 rfl ?_
  exact V
theorem e_X9_mostAnswered {w : WS} {h : AH} {Q : Int → AH → Prop} (X : XI mX9_mostAnswered 0 [some (vR 65), none, none, none, none] [] w h Q) : CI mX9_mostAnswered [vR 65] w h Q := CA.of (M := mX9_mostAnswered) (by decide) rfl (Nat.le_of_ble_eq_true rfl) X
set_option maxRecDepth 20000 in
theorem r_X9_mostAnswered_0 {w : WS} {h : AH} {Q : Int → AH → Prop} (sA : shA w) (V : XI mX9_mostAnswered 4 [some (vR 65), some (vI 0), some (vI 0), none, none] [] w h Q) : XI mX9_mostAnswered 0 [some (vR 65), none, none, none, none] [] w h Q := by
  refine s_iconst (pc' := 1) dX9_mostAnswered_0 rfl ?_
  refine s_istore_n (pc' := 2) (ls' := [some (vR 65), some (vI 0), none, none, none]) dX9_mostAnswered_1 (by decide) rfl rfl ?_
  refine s_iconst (pc' := 3) dX9_mostAnswered_2 rfl ?_
  refine s_istore_n (pc' := 4) (ls' := [some (vR 65), some (vI 0), some (vI 0), none, none]) dX9_mostAnswered_3 (by decide) rfl rfl ?_
  exact V
set_option maxRecDepth 20000 in
theorem r_X9_mostAnswered_4 {w : WS} {h : AH} {Q : Int → AH → Prop} {a1 a2 : Int} (sA : shA w) (V : (inR a2 ∧ inR (h 65 12) ∧ (((h 65 12) ≤ a2 → Q a1 h) ∧ (¬ (h 65 12) ≤ a2 → XI mX9_mostAnswered 17 [some (vR 65), some (vI a1), some (vI a2), some (vI 0), some (vI 0)] [] w h Q)))) : XI mX9_mostAnswered 4 [some (vR 65), some (vI a1), some (vI a2), none, none] [] w h Q := by
  refine s_iload_n (pc' := 5) (x := a2) dX9_mostAnswered_4 rfl rfl ?_
  refine s_aload_n (pc' := 6) (x := 65) dX9_mostAnswered_5 rfl rfl ?_
  refine s_get (pc' := 9) (v := vI (h 65 12)) (kc := 9) (i := 12) dX9_mostAnswered_6 clX9 (by decide) fl_9_12 (fa_t65 sA) (fun _ => rfl) rfl ?_
  obtain ⟨z1, z2, V⟩ := V
  obtain ⟨V3, V4⟩ := V
  refine s_icmp_ge (pc' := 12) (tgt := 77) dX9_mostAnswered_9 rfl rfl z1 z2 (fun c => ?_) (fun c => ?_)
  · have V := V3 c
    refine s_iload_n (pc' := 78) (x := a1) dX9_mostAnswered_77 rfl rfl ?_
    exact s_iret dX9_mostAnswered_78 rfl ⟨_, rfl, rfl, V⟩
  · have V := V4 c
    refine s_iconst (pc' := 13) dX9_mostAnswered_12 rfl ?_
    refine s_istore_n (pc' := 14) (ls' := [some (vR 65), some (vI a1), some (vI a2), some (vI 0), none]) dX9_mostAnswered_13 (by decide) rfl rfl ?_
    refine s_iconst (pc' := 15) dX9_mostAnswered_14 rfl ?_
    refine s_istore (pc' := 17) (ls' := [some (vR 65), some (vI a1), some (vI a2), some (vI 0), some (vI 0)]) dX9_mostAnswered_15 (by decide) rfl rfl ?_
    exact V
set_option maxRecDepth 20000 in
theorem r_X9_mostAnswered_17 {w : WS} {h : AH} {Q : Int → AH → Prop} {a1 a2 a3 a4 : Int} (sA : shA w) (V : (inR a4 ∧ inR (h 65 10) ∧ (((h 65 10) ≤ a4 → (inR a3 ∧ inR a1 ∧ ((a3 ≤ a1 → XI mX9_mostAnswered 4 [some (vR 65), some (vI a1), some (vI (a2 + 1)), none, none] [] w h Q) ∧ (¬ a3 ≤ a1 → XI mX9_mostAnswered 4 [some (vR 65), some (vI a3), some (vI (a2 + 1)), none, none] [] w h Q)))) ∧ (¬ (h 65 10) ≤ a4 → (0 ≤ a4 ∧ a4 < 300 ∧ CI mX9_answers [vR 65, vI (h 69 a4)] w h (fun x10 h9 => (0 ≤ a2 ∧ a2 < 302 ∧ (inR x10 ∧ inR (h9 73 a2) ∧ ((¬ x10 = (h9 73 a2) → XI mX9_mostAnswered 17 [some (vR 65), some (vI a1), some (vI a2), some (vI (a3 + 0)), some (vI (a4 + 1))] [] w h9 Q) ∧ (x10 = (h9 73 a2) → XI mX9_mostAnswered 17 [some (vR 65), some (vI a1), some (vI a2), some (vI (a3 + 1)), some (vI (a4 + 1))] [] w h9 Q)))))))))) : XI mX9_mostAnswered 17 [some (vR 65), some (vI a1), some (vI a2), some (vI a3), some (vI a4)] [] w h Q := by
  refine s_iload (pc' := 19) (x := a4) dX9_mostAnswered_17 rfl rfl ?_
  refine s_aload_n (pc' := 20) (x := 65) dX9_mostAnswered_19 rfl rfl ?_
  refine s_get (pc' := 23) (v := vI (h 65 10)) (kc := 9) (i := 10) dX9_mostAnswered_20 clX9 (by decide) fl_9_10 (fa_t65 sA) (fun _ => rfl) rfl ?_
  obtain ⟨z1, z2, V⟩ := V
  obtain ⟨V17, V18⟩ := V
  refine s_icmp_ge (pc' := 26) (tgt := 60) dX9_mostAnswered_23 rfl rfl z1 z2 (fun c => ?_) (fun c => ?_)
  · have V := V17 c
    refine s_iload_n (pc' := 61) (x := a3) dX9_mostAnswered_60 rfl rfl ?_
    refine s_iload_n (pc' := 62) (x := a1) dX9_mostAnswered_61 rfl rfl ?_
    obtain ⟨z3, z4, V⟩ := V
    obtain ⟨V5, V6⟩ := V
    refine s_icmp_le (pc' := 65) (tgt := 69) dX9_mostAnswered_62 rfl rfl z3 z4 (fun c => ?_) (fun c => ?_)
    · have V := V5 c
      refine s_iload_n (pc' := 70) (x := a1) dX9_mostAnswered_69 rfl rfl ?_
      refine s_istore_n (pc' := 71) (ls' := [some (vR 65), some (vI a1), some (vI a2), some (vI a3), some (vI a4)]) dX9_mostAnswered_70 (by decide) rfl rfl ?_
      refine s_iinc (pc' := 74) (ls' := [some (vR 65), some (vI a1), some (vI (a2 + 1)), some (vI a3), some (vI a4)]) dX9_mostAnswered_71 rfl (by decide) rfl rfl ?_
      refine s_goto (tgt := 4) dX9_mostAnswered_74 rfl ?_
      refine s_drop 3 (ls' := [some (vR 65), some (vI a1), some (vI (a2 + 1)), none, some (vI a4)]) rfl ?_
      refine s_drop 4 (ls' := [some (vR 65), some (vI a1), some (vI (a2 + 1)), none, none]) rfl ?_
      exact V
    · have V := V6 c
      refine s_iload_n (pc' := 66) (x := a3) dX9_mostAnswered_65 rfl rfl ?_
      refine s_goto (tgt := 70) dX9_mostAnswered_66 rfl ?_
      refine s_istore_n (pc' := 71) (ls' := [some (vR 65), some (vI a3), some (vI a2), some (vI a3), some (vI a4)]) dX9_mostAnswered_70 (by decide) rfl rfl ?_
      refine s_iinc (pc' := 74) (ls' := [some (vR 65), some (vI a3), some (vI (a2 + 1)), some (vI a3), some (vI a4)]) dX9_mostAnswered_71 rfl (by decide) rfl rfl ?_
      refine s_goto (tgt := 4) dX9_mostAnswered_74 rfl ?_
      refine s_drop 3 (ls' := [some (vR 65), some (vI a3), some (vI (a2 + 1)), none, some (vI a4)]) rfl ?_
      refine s_drop 4 (ls' := [some (vR 65), some (vI a3), some (vI (a2 + 1)), none, none]) rfl ?_
      exact V
  · have V := V18 c
    refine s_iload_n (pc' := 27) (x := a3) dX9_mostAnswered_26 rfl rfl ?_
    refine s_aload_n (pc' := 28) (x := 65) dX9_mostAnswered_27 rfl rfl ?_
    refine s_aload_n (pc' := 29) (x := 65) dX9_mostAnswered_28 rfl rfl ?_
    refine s_getF (pc' := 32) (b := 69) (kc := 9) (i := 6) dX9_mostAnswered_29 clX9 (by decide) fl_9_6 (fa_t65 sA) (fa_f9_6 sA) (fun _ => rfl) rfl ?_
    refine s_iload (pc' := 34) (x := a4) dX9_mostAnswered_32 rfl rfl ?_
    obtain ⟨z7, z8, V⟩ := V
    refine s_iald (pc' := 35) dX9_mostAnswered_34 (fa_t69 sA) z7 (fa_lt69 sA z8) rfl ?_
    refine s_callV (pc' := 38) (av := [vI (h 69 a4)]) (a := 65) (sk := [vI a3]) (kc := 9) dX9_mostAnswered_35 ml_9_142 okX9_answers oiX9_answers (by decide) (NF := 39) rfl (fa_t65 sA) rfl (Nat.le_of_ble_eq_true rfl) (Nat.le_refl 0) (Nat.le_refl 0) rfl (CI.on V (fun x10 h9 V => ?_))
    refine s_aload_n (pc' := 39) (x := 65) dX9_mostAnswered_38 rfl rfl ?_
    refine s_getF (pc' := 42) (b := 73) (kc := 9) (i := 11) dX9_mostAnswered_39 clX9 (by decide) fl_9_11 (fa_t65 sA) (fa_f9_11 sA) (fun _ => rfl) rfl ?_
    refine s_iload_n (pc' := 43) (x := a2) dX9_mostAnswered_42 rfl rfl ?_
    obtain ⟨z11, z12, V⟩ := V
    refine s_iald (pc' := 44) dX9_mostAnswered_43 (fa_t73 sA) z11 (fa_lt73 sA z12) rfl ?_
    obtain ⟨z13, z14, V⟩ := V
    obtain ⟨V15, V16⟩ := V
    refine s_icmp_ne (pc' := 47) (tgt := 51) dX9_mostAnswered_44 rfl rfl z13 z14 (fun c => ?_) (fun c => ?_)
    · have V := V15 c
      refine s_iconst (pc' := 52) dX9_mostAnswered_51 rfl ?_
      refine s_iadd (pc' := 53) dX9_mostAnswered_52 rfl ?_
      refine s_istore_n (pc' := 54) (ls' := [some (vR 65), some (vI a1), some (vI a2), some (vI (a3 + 0)), some (vI a4)]) dX9_mostAnswered_53 (by decide) rfl rfl ?_
      refine s_iinc (pc' := 57) (ls' := [some (vR 65), some (vI a1), some (vI a2), some (vI (a3 + 0)), some (vI (a4 + 1))]) dX9_mostAnswered_54 rfl (by decide) rfl rfl ?_
      refine s_goto (tgt := 17) dX9_mostAnswered_57 rfl ?_
      exact V
    · have V := V16 c
      refine s_iconst (pc' := 48) dX9_mostAnswered_47 rfl ?_
      refine s_goto (tgt := 52) dX9_mostAnswered_48 rfl ?_
      refine s_iadd (pc' := 53) dX9_mostAnswered_52 rfl ?_
      refine s_istore_n (pc' := 54) (ls' := [some (vR 65), some (vI a1), some (vI a2), some (vI (a3 + 1)), some (vI a4)]) dX9_mostAnswered_53 (by decide) rfl rfl ?_
      refine s_iinc (pc' := 57) (ls' := [some (vR 65), some (vI a1), some (vI a2), some (vI (a3 + 1)), some (vI (a4 + 1))]) dX9_mostAnswered_54 rfl (by decide) rfl rfl ?_
      refine s_goto (tgt := 17) dX9_mostAnswered_57 rfl ?_
      exact V
theorem e_X9_longestWait {w : WS} {h : AH} {Q : Int → AH → Prop} (X : XI mX9_longestWait 0 [some (vR 65), none, none] [] w h Q) : CI mX9_longestWait [vR 65] w h Q := CA.of (M := mX9_longestWait) (by decide) rfl (Nat.le_of_ble_eq_true rfl) X
set_option maxRecDepth 20000 in
theorem r_X9_longestWait_0 {w : WS} {h : AH} {Q : Int → AH → Prop} (sA : shA w) (V : XI mX9_longestWait 4 [some (vR 65), some (vI 0), some (vI 0)] [] w h Q) : XI mX9_longestWait 0 [some (vR 65), none, none] [] w h Q := by
  refine s_iconst (pc' := 1) dX9_longestWait_0 rfl ?_
  refine s_istore_n (pc' := 2) (ls' := [some (vR 65), some (vI 0), none]) dX9_longestWait_1 (by decide) rfl rfl ?_
  refine s_iconst (pc' := 3) dX9_longestWait_2 rfl ?_
  refine s_istore_n (pc' := 4) (ls' := [some (vR 65), some (vI 0), some (vI 0)]) dX9_longestWait_3 (by decide) rfl rfl ?_
  exact V
set_option maxRecDepth 20000 in
theorem r_X9_longestWait_4 {w : WS} {h : AH} {Q : Int → AH → Prop} {a1 a2 : Int} (sA : shA w) (V : (inR a2 ∧ inR (h 65 10) ∧ (((h 65 10) ≤ a2 → Q a1 h) ∧ (¬ (h 65 10) ≤ a2 → (0 ≤ a2 ∧ a2 < 300 ∧ CI mX9_answers [vR 65, vI (h 69 a2)] w h (fun x6 h5 => (inR (x6 - (h5 69 a2)) ∧ inR a1 ∧ (((x6 - (h5 69 a2)) ≤ a1 → XI mX9_longestWait 4 [some (vR 65), some (vI a1), some (vI (a2 + 1))] [] w h5 Q) ∧ (¬ (x6 - (h5 69 a2)) ≤ a1 → CI mX9_answers [vR 65, vI (h5 69 a2)] w h5 (fun x10 h9 => XI mX9_longestWait 4 [some (vR 65), some (vI (x10 - (h9 69 a2))), some (vI (a2 + 1))] [] w h9 Q)))))))))) : XI mX9_longestWait 4 [some (vR 65), some (vI a1), some (vI a2)] [] w h Q := by
  refine s_iload_n (pc' := 5) (x := a2) dX9_longestWait_4 rfl rfl ?_
  refine s_aload_n (pc' := 6) (x := 65) dX9_longestWait_5 rfl rfl ?_
  refine s_get (pc' := 9) (v := vI (h 65 10)) (kc := 9) (i := 10) dX9_longestWait_6 clX9 (by decide) fl_9_10 (fa_t65 sA) (fun _ => rfl) rfl ?_
  obtain ⟨z1, z2, V⟩ := V
  obtain ⟨V13, V14⟩ := V
  refine s_icmp_ge (pc' := 12) (tgt := 61) dX9_longestWait_9 rfl rfl z1 z2 (fun c => ?_) (fun c => ?_)
  · have V := V13 c
    refine s_iload_n (pc' := 62) (x := a1) dX9_longestWait_61 rfl rfl ?_
    exact s_iret dX9_longestWait_62 rfl ⟨_, rfl, rfl, V⟩
  · have V := V14 c
    refine s_aload_n (pc' := 13) (x := 65) dX9_longestWait_12 rfl rfl ?_
    refine s_aload_n (pc' := 14) (x := 65) dX9_longestWait_13 rfl rfl ?_
    refine s_getF (pc' := 17) (b := 69) (kc := 9) (i := 6) dX9_longestWait_14 clX9 (by decide) fl_9_6 (fa_t65 sA) (fa_f9_6 sA) (fun _ => rfl) rfl ?_
    refine s_iload_n (pc' := 18) (x := a2) dX9_longestWait_17 rfl rfl ?_
    obtain ⟨z3, z4, V⟩ := V
    refine s_iald (pc' := 19) dX9_longestWait_18 (fa_t69 sA) z3 (fa_lt69 sA z4) rfl ?_
    refine s_callV (pc' := 22) (av := [vI (h 69 a2)]) (a := 65) (sk := []) (kc := 9) dX9_longestWait_19 ml_9_142 okX9_answers oiX9_answers (by decide) (NF := 39) rfl (fa_t65 sA) rfl (Nat.le_of_ble_eq_true rfl) (Nat.le_refl 0) (Nat.le_refl 0) rfl (CI.on V (fun x6 h5 V => ?_))
    refine s_aload_n (pc' := 23) (x := 65) dX9_longestWait_22 rfl rfl ?_
    refine s_getF (pc' := 26) (b := 69) (kc := 9) (i := 6) dX9_longestWait_23 clX9 (by decide) fl_9_6 (fa_t65 sA) (fa_f9_6 sA) (fun _ => rfl) rfl ?_
    refine s_iload_n (pc' := 27) (x := a2) dX9_longestWait_26 rfl rfl ?_
    refine s_iald (pc' := 28) dX9_longestWait_27 (fa_t69 sA) z3 (fa_lt69 sA z4) rfl ?_
    refine s_isub (pc' := 29) dX9_longestWait_28 rfl ?_
    refine s_iload_n (pc' := 30) (x := a1) dX9_longestWait_29 rfl rfl ?_
    obtain ⟨z7, z8, V⟩ := V
    obtain ⟨V11, V12⟩ := V
    refine s_icmp_le (pc' := 33) (tgt := 53) dX9_longestWait_30 rfl rfl z7 z8 (fun c => ?_) (fun c => ?_)
    · have V := V11 c
      refine s_iload_n (pc' := 54) (x := a1) dX9_longestWait_53 rfl rfl ?_
      refine s_istore_n (pc' := 55) (ls' := [some (vR 65), some (vI a1), some (vI a2)]) dX9_longestWait_54 (by decide) rfl rfl ?_
      refine s_iinc (pc' := 58) (ls' := [some (vR 65), some (vI a1), some (vI (a2 + 1))]) dX9_longestWait_55 rfl (by decide) rfl rfl ?_
      refine s_goto (tgt := 4) dX9_longestWait_58 rfl ?_
      exact V
    · have V := V12 c
      refine s_aload_n (pc' := 34) (x := 65) dX9_longestWait_33 rfl rfl ?_
      refine s_aload_n (pc' := 35) (x := 65) dX9_longestWait_34 rfl rfl ?_
      refine s_getF (pc' := 38) (b := 69) (kc := 9) (i := 6) dX9_longestWait_35 clX9 (by decide) fl_9_6 (fa_t65 sA) (fa_f9_6 sA) (fun _ => rfl) rfl ?_
      refine s_iload_n (pc' := 39) (x := a2) dX9_longestWait_38 rfl rfl ?_
      refine s_iald (pc' := 40) dX9_longestWait_39 (fa_t69 sA) z3 (fa_lt69 sA z4) rfl ?_
      refine s_callV (pc' := 43) (av := [vI (h5 69 a2)]) (a := 65) (sk := []) (kc := 9) dX9_longestWait_40 ml_9_142 okX9_answers oiX9_answers (by decide) (NF := 39) rfl (fa_t65 sA) rfl (Nat.le_of_ble_eq_true rfl) (Nat.le_refl 0) (Nat.le_refl 0) rfl (CI.on V (fun x10 h9 V => ?_))
      refine s_aload_n (pc' := 44) (x := 65) dX9_longestWait_43 rfl rfl ?_
      refine s_getF (pc' := 47) (b := 69) (kc := 9) (i := 6) dX9_longestWait_44 clX9 (by decide) fl_9_6 (fa_t65 sA) (fa_f9_6 sA) (fun _ => rfl) rfl ?_
      refine s_iload_n (pc' := 48) (x := a2) dX9_longestWait_47 rfl rfl ?_
      refine s_iald (pc' := 49) dX9_longestWait_48 (fa_t69 sA) z3 (fa_lt69 sA z4) rfl ?_
      refine s_isub (pc' := 50) dX9_longestWait_49 rfl ?_
      refine s_goto (tgt := 54) dX9_longestWait_50 rfl ?_
      refine s_istore_n (pc' := 55) (ls' := [some (vR 65), some (vI (x10 - (h9 69 a2))), some (vI a2)]) dX9_longestWait_54 (by decide) rfl rfl ?_
      refine s_iinc (pc' := 58) (ls' := [some (vR 65), some (vI (x10 - (h9 69 a2))), some (vI (a2 + 1))]) dX9_longestWait_55 rfl (by decide) rfl rfl ?_
      refine s_goto (tgt := 4) dX9_longestWait_58 rfl ?_
      exact V
