section
variable {w : WS} {h : AH} {S : Int → Int} {q : HS}
theorem mH_at (ok : okS S) (H : mH h q) (K : okHq S q) {k : Int} (k0 : 0 ≤ k) (k1 : k < q.1 0) : (h 80 k = -1 ↔ q.1 5 ≤ k) ∧ (-1 ≤ h 80 k ∧ h 80 k ≤ 301) := by
  obtain ⟨c1, c2, c3, c4, c5, c6, c7, c8, c9, c10, c11, c12⟩ := K
  have l3 := ok.2.2.1
  by_cases e : k < q.1 5
  · have a := H.2.2.1 k k0 e
    have b := c12 k k0 e
    have f := (c1.2.1 k k0 k1).1
    rw [a]
    exact ⟨⟨fun z => by omega, fun z => by omega⟩, by omega⟩
  · have a := H.2.2.2.1 k (by omega) k1
    rw [a]
    exact ⟨⟨fun _ => by omega, fun _ => rfl⟩, by omega⟩
theorem c_X9_left (sA : shA w) (ok : okS S) (H : mH h q) (K : okHq S q) : CI mX9_left [vR 65] w h (fun x h' => x = q.1 0 - q.1 5 ∧ h' = h) := by
  have n0 := K.1.1
  have c5 := K.2.2.2.2.1
  have key : ∀ (d : Nat) (i a : Int), i + d = q.1 0 → 0 ≤ i → a = max 0 (i - q.1 5) → XI mX9_left 4 [some (vR 65), some (vI a), some (vI i)] [] w h (fun x h' => x = q.1 0 - q.1 5 ∧ h' = h) := by
    intro d
    induction d with
    | zero =>
      intro i a hi i0 ea
      refine r_X9_left_4 sA ?_
      rw [H.1]
      exact ⟨by omega, by omega, fun _ => ⟨by omega, rfl⟩, fun c => absurd c (by omega)⟩
    | succ d ih =>
      intro i a hi i0 ea
      obtain ⟨e1, e2⟩ := mH_at ok H K i0 (by omega)
      refine r_X9_left_4 sA ?_
      rw [H.1]
      refine ⟨by omega, by omega, fun c => absurd c (by omega), fun _ => ⟨i0, by omega, by omega, fun c => ih (i + 1) _ (by omega) (by omega) ?_, fun c => ih (i + 1) _ (by omega) (by omega) ?_⟩⟩
      · have : ¬ q.1 5 ≤ i := fun z => c (e1.mpr z)
        omega
      · have := e1.mp c
        omega
  exact e_X9_left (r_X9_left_0 sA (key (q.1 0).toNat 0 0 (by omega) (by omega) (by omega)))
theorem c_X9_leftWaits {u : Int} (sA : shA w) (ok : okS S) (H : mH h q) (K : okHq S q) : CI mX9_leftWaits [vR 65, vI u] w h (fun x h' => x = wsum q.2.1 q.2.2.2.1 u (q.1 0 - q.1 5).toNat (q.1 5) ∧ h' = h) := by
  have n0 := K.1.1
  have c5 := K.2.2.2.2.1
  have key : ∀ (d : Nat) (i : Int), i + d = q.1 0 → 0 ≤ i → XI mX9_leftWaits 4 [some (vR 65), some (vI u), some (vI (wsum q.2.1 q.2.2.2.1 u (i - q.1 5).toNat (q.1 5))), some (vI i)] [] w h (fun x h' => x = wsum q.2.1 q.2.2.2.1 u (q.1 0 - q.1 5).toNat (q.1 5) ∧ h' = h) := by
    intro d
    induction d with
    | zero =>
      intro i hi i0
      refine r_X9_leftWaits_4 sA ?_
      rw [H.1]
      exact ⟨by omega, by omega, fun _ => ⟨by rw [show i = q.1 0 by omega], rfl⟩, fun c => absurd c (by omega)⟩
    | succ d ih =>
      intro i hi i0
      obtain ⟨e1, e2⟩ := mH_at ok H K i0 (by omega)
      obtain ⟨g1, g2, g3⟩ := H.2.1 i i0 (by omega)
      have I := ih (i + 1) (by omega) (by omega)
      refine r_X9_leftWaits_4 sA ?_
      rw [H.1, g1, g3]
      refine ⟨by omega, by omega, fun c => absurd c (by omega), fun _ => ⟨i0, by omega, by omega, fun c => ?_, fun c y ey => ?_⟩⟩
      · have : ¬ q.1 5 ≤ i := fun z => c (e1.mpr z)
        rw [show (i + 1 - q.1 5).toNat = 0 by omega] at I
        rw [show (i - q.1 5).toNat = 0 by omega]
        exact I
      · have := e1.mp c
        rw [show (i + 1 - q.1 5).toNat = (i - q.1 5).toNat + 1 by omega, wsum_app, show q.1 5 + (((i - q.1 5).toNat : Nat) : Int) = i by omega, ← ey] at I
        exact I
  have := key (q.1 0).toNat 0 (by omega) (by omega)
  rw [show (0 - q.1 5).toNat = 0 by omega] at this
  exact e_X9_leftWaits (r_X9_leftWaits_0 sA this)
theorem mnF_r {L : Int → Int} {a : Int} : ∀ m : Nat, (∀ k, a ≤ k → k < a + m → 0 ≤ L k ∧ L k ≤ 300) → -1 ≤ mnF L a m ∧ mnF L a m ≤ 300 := by
  intro m
  induction m with
  | zero => intro _; rw [mnF]; omega
  | succ m ih =>
    intro hL
    have a1 := ih (fun k k0 k1 => hL k k0 (by omega))
    have a2 := hL (a + m) (by omega) (by omega)
    rw [mnF]
    split <;> omega
theorem c_X9_leftLatest (sA : shA w) (ok : okS S) (H : mH h q) (K : okHq S q) : CI mX9_leftLatest [vR 65] w h (fun x h' => x = mnF q.2.2.1 (q.1 5) (q.1 0 - q.1 5).toNat ∧ h' = h) := by
  have n0 := K.1.1
  have c5 := K.2.2.2.2.1
  have rg : ∀ i, i ≤ q.1 0 → -1 ≤ mnF q.2.2.1 (q.1 5) (i - q.1 5).toNat ∧ mnF q.2.2.1 (q.1 5) (i - q.1 5).toNat ≤ 300 := fun i hi => mnF_r _ (fun k k0 k1 => by have := (K.1.2.1 k (by omega) (by omega)).1; omega)
  have key : ∀ (d : Nat) (i : Int), i + d = q.1 0 → 0 ≤ i → XI mX9_leftLatest 4 [some (vR 65), some (vI (mnF q.2.2.1 (q.1 5) (i - q.1 5).toNat)), some (vI i)] [] w h (fun x h' => x = mnF q.2.2.1 (q.1 5) (q.1 0 - q.1 5).toNat ∧ h' = h) := by
    intro d
    induction d with
    | zero =>
      intro i hi i0
      refine r_X9_leftLatest_4 sA ?_
      rw [H.1]
      exact ⟨by omega, by omega, fun _ => ⟨by rw [show i = q.1 0 by omega], rfl⟩, fun c => absurd c (by omega)⟩
    | succ d ih =>
      intro i hi i0
      obtain ⟨e1, e2⟩ := mH_at ok H K i0 (by omega)
      obtain ⟨g1, g2, g3⟩ := H.2.1 i i0 (by omega)
      have b := (K.1.2.1 i i0 (by omega)).1
      have I := ih (i + 1) (by omega) (by omega)
      have r0 := rg i (by omega)
      refine r_X9_leftLatest_4 sA ?_
      rw [H.1, g2]
      refine ⟨by omega, by omega, fun c => absurd c (by omega), fun _ => ⟨i0, by omega, by omega, fun c => ?_, fun c => ?_⟩⟩
      · have : ¬ q.1 5 ≤ i := fun z => c (e1.mpr z)
        rw [show (i + 1 - q.1 5).toNat = 0 by omega] at I
        rw [show (i - q.1 5).toNat = 0 by omega]
        exact I
      · have := e1.mp c
        rw [show (i + 1 - q.1 5).toNat = (i - q.1 5).toNat + 1 by omega, mnF, show q.1 5 + (((i - q.1 5).toNat : Nat) : Int) = i by omega] at I
        refine ⟨by omega, fun c2 => ?_, fun c2 => ⟨by omega, fun c3 => ?_, fun c3 => ?_⟩⟩
        · rw [if_pos (Or.inl c2)] at I; exact I
        · rw [if_neg (by omega)] at I; exact I
        · rw [if_pos (by omega)] at I; exact I
  have := key (q.1 0).toNat 0 (by omega) (by omega)
  rw [show (0 - q.1 5).toNat = 0 by omega] at this
  exact e_X9_leftLatest (r_X9_leftLatest_0 sA this)
theorem c_X9_handWaits (sA : shA w) (ok : okS S) (H : mH h q) (K : okHq S q) : CI mX9_handWaits [vR 65] w h (fun x h' => x = wAt q.2.1 q.2.2.2.1 q.2.2.2.2 (q.1 5).toNat ∧ h' = h) := by
  have n0 := K.1.1
  have c5 := K.2.2.2.2.1
  have key : ∀ (d : Nat) (i : Int), i + d = q.1 0 → 0 ≤ i → XI mX9_handWaits 4 [some (vR 65), some (vI (wAt q.2.1 q.2.2.2.1 q.2.2.2.2 (min i (q.1 5)).toNat)), some (vI i)] [] w h (fun x h' => x = wAt q.2.1 q.2.2.2.1 q.2.2.2.2 (q.1 5).toNat ∧ h' = h) := by
    intro d
    induction d with
    | zero =>
      intro i hi i0
      refine r_X9_handWaits_4 sA ?_
      rw [H.1]
      exact ⟨by omega, by omega, fun _ => ⟨by rw [show min i (q.1 5) = q.1 5 by omega], rfl⟩, fun c => absurd c (by omega)⟩
    | succ d ih =>
      intro i hi i0
      obtain ⟨e1, e2⟩ := mH_at ok H K i0 (by omega)
      obtain ⟨g1, g2, g3⟩ := H.2.1 i i0 (by omega)
      have I := ih (i + 1) (by omega) (by omega)
      refine r_X9_handWaits_4 sA ?_
      rw [H.1, g1, g3]
      refine ⟨by omega, by omega, fun c => absurd c (by omega), fun _ => ⟨i0, by omega, by omega, fun c y ey => ?_, fun c => ?_⟩⟩
      · have lt : i < q.1 5 := by
          apply Decidable.byContradiction
          intro z
          exact c (e1.mpr (by omega))
        rw [H.2.2.1 i i0 lt] at ey
        rw [show (min (i + 1) (q.1 5)).toNat = (min i (q.1 5)).toNat + 1 by omega, wAt, show (((min i (q.1 5)).toNat : Nat) : Int) = i by omega, ← ey] at I
        exact I
      · have := e1.mp c
        rw [show min (i + 1) (q.1 5) = q.1 5 by omega] at I
        rw [show min i (q.1 5) = q.1 5 by omega, Int.add_zero]
        exact I
  have := key (q.1 0).toNat 0 (by omega) (by omega)
  rw [show (min 0 (q.1 5)).toNat = 0 by omega] at this
  exact e_X9_handWaits (r_X9_handWaits_0 sA this)
/-- what by hand may change -/
def kH (h h' : AH) : Prop := (∀ b, b ≠ 65 → (b < 77 ∨ 80 < b) → h' b = h b) ∧ ∀ i, (i < 20 ∨ 25 < i) → h' 65 i = h 65 i
theorem kH_rfl (h : AH) : kH h h := ⟨fun _ _ _ => rfl, fun _ _ => rfl⟩
theorem kH_tr {h1 h2 : AH} (a : kH h h1) (b : kH h1 h2) : kH h h2 := ⟨fun x x1 x2 => (b.1 x x1 x2).trans (a.1 x x1 x2), fun i hi => (b.2 i hi).trans (a.2 i hi)⟩
theorem kH_all {h' : AH} (k : kH h h') (A : isAll h S) : isAll h' S := fun j j0 j1 => by rw [k.1 66 (by decide) (by decide)]; exact A j j0 j1
theorem c_X9_handWakes (sA : shA w) (ok : okS S) (H : mH h q) (K : okHq S q) : CV mX9_handWakes [vR 65] w h (fun h' => mH h' (wakeHS q) ∧ kH h h') := by
  obtain ⟨m1, m2, m3, m4, m5, m6, m7, m8, m9⟩ := id H
  have n0 := K.1.1
  have c5 := K.2.2.2.2.1
  have key : ∀ (d : Nat) (i : Int) (h1 : AH), i + d = q.1 0 → 0 ≤ i → (∀ k, 0 ≤ k → k < i → h1 80 k = if q.1 5 ≤ k then q.1 9 else h 80 k) → (∀ k, i ≤ k → h1 80 k = h 80 k) → (∀ b, b ≠ 80 → h1 b = h b) → XV mX9_handWakes 2 [some (vR 65), some (vI i)] [] w h1 (fun h' => mH h' (wakeHS q) ∧ kH h h') := by
    intro d
    induction d with
    | zero =>
      intro i h1 hi i0 a1 a2 fo
      refine r_X9_handWakes_2 sA ?_
      rw [fo 65 (by decide), m1]
      refine ⟨by omega, by omega, fun _ h3 e3 h5 e5 => ?_, fun c => absurd c (by omega)⟩
      have ho : ∀ b, b ≠ 65 → h5 b = h1 b := fun b hb => by rw [e5, st_row _ _ _ hb, e3, st_row _ _ _ hb]
      have hi5 : ∀ j, j ≠ 21 → j ≠ 22 → h5 65 j = h 65 j := fun j j1 j2 => by rw [e5, st_slot _ _ _ _ j2, e3, st_slot _ _ _ _ j1, fo 65 (by decide)]
      obtain ⟨e0, e4, e5', e6, e8, e9, e10⟩ := wakeG_at q.1
      refine ⟨?_, fun b b1 b2 => (ho b b1).trans (fo b (by omega)), fun j hj => hi5 j (by omega) (by omega)⟩
      show h5 65 20 = wakeG q.1 0 ∧ _
      refine ⟨by rw [hi5 20 (by decide) (by decide), e0]; exact m1, fun k k0 k1 => ?_, fun k k0 k1 => ?_, fun k k0 k1 => ?_, ?_, ?_, ?_, ?_, ?_⟩
      · have k2 : k < q.1 0 := k1
        rw [ho 77 (by decide), ho 78 (by decide), ho 79 (by decide), fo 77 (by decide), fo 78 (by decide), fo 79 (by decide)]
        exact m2 k k0 k2
      · have k2 : k < q.1 0 := k1
        show h5 80 k = ap (q.1 5) q.2.2.2.2 (fun _ => q.1 9) k
        rw [ho 80 (by decide), a1 k k0 (by omega)]
        by_cases c : k < q.1 5
        · rw [if_neg (by omega), ap_lt c]; exact m3 k k0 c
        · rw [if_pos (by omega), ap_ge c]
      · have k2 : k < q.1 0 := k1
        have k3 : q.1 0 ≤ k := k0
        omega
      · show h5 65 21 = wakeG q.1 6
        rw [e6, e5, st_slot _ _ _ _ (by decide), e3, st_same, m5]
      · show h5 65 22 = wakeG q.1 8
        rw [e8, e5, st_same, e3, st_slot _ _ _ _ (by decide), fo 65 (by decide)]; exact m7
      · show h5 65 23 = wakeG q.1 9
        rw [e9, hi5 23 (by decide) (by decide)]; exact m7
      · show h5 65 24 = wakeG q.1 10
        rw [e10, hi5 24 (by decide) (by decide)]; exact m8
      · show h5 65 25 = wakeG q.1 4
        rw [e4, hi5 25 (by decide) (by decide)]; exact m9
    | succ d ih =>
      intro i h1 hi i0 a1 a2 fo
      obtain ⟨e1, e2⟩ := mH_at ok H K i0 (by omega)
      refine r_X9_handWakes_2 sA ?_
      rw [fo 65 (by decide), m1, a2 i (Int.le_refl _)]
      refine ⟨by omega, by omega, fun c => absurd c (by omega), fun _ => ⟨i0, by omega, by omega, fun c => ih (i + 1) h1 (by omega) (by omega) (fun k k0 k1 => ?_) (fun k k0 => a2 k (by omega)) fo, fun c h10 e10 => ?_⟩⟩
      · by_cases e : k = i
        · rw [e, if_neg (fun z => c (e1.mpr z))]; exact a2 i (Int.le_refl _)
        · exact a1 k k0 (by omega)
      · refine ih (i + 1) h10 (by omega) (by omega) (fun k k0 k1 => ?_) (fun k k0 => ?_) (fun b hb => by rw [e10, st_row _ _ _ hb]; exact fo b hb)
        · by_cases e : k = i
          · rw [e, if_pos (e1.mp c), e10, st_same]; exact m7
          · rw [e10, st_slot _ _ _ _ e]; exact a1 k k0 (by omega)
        · rw [e10, st_slot _ _ _ _ (by omega)]; exact a2 k (by omega)
  exact e_X9_handWakes (r_X9_handWakes_0 sA (key (q.1 0).toNat 0 h (by omega) (by omega) (fun k k0 k1 => by omega) (fun k _ => rfl) (fun b _ => rfl)))
/-- one more has come -/
def cmM (h h' : AH) (a b c : Int) : Prop := h' 65 20 = h 65 20 + 1 ∧ (∀ i, i ≠ 20 → h' 65 i = h 65 i) ∧ (∀ k, h' 77 k = up (h 77) (h 65 20) (h 65 23) k) ∧ (∀ k, h' 78 k = up (h 78) (h 65 20) a k) ∧ (∀ k, h' 79 k = up (h 79) (h 65 20) b k) ∧ (∀ k, h' 80 k = up (h 80) (h 65 20) c k) ∧ ∀ b, b ≠ 65 → (b < 77 ∨ 80 < b) → h' b = h b
theorem c_X9_comes {k : Int} (sA : shA w) (A : isAll h S) (ok : okS S) (hk : 0 ≤ k ∧ k < S 96) (hN : 0 ≤ h 65 20 ∧ h 65 20 < 300) (hu : -1 ≤ h 65 23 ∧ h 65 23 ≤ 400) (hl : -1 ≤ h 65 22 ∧ h 65 22 ≤ 400) : CI mX9_comes [vR 65, vI k] w h (fun x h' => x = min (h 65 23 + slk S k) (S 98) ∧ cmM h h' (min (h 65 23 + slk S k) (S 98)) (wgt S k) (if h 65 22 = h 65 23 then h 65 23 else -1)) := by
  have sr := slk_r ok hk.1 hk.2
  refine e_X9_comes (r_X9_comes_0 sA ⟨hN.1, hN.2, fun h3 e3 => ?_⟩)
  have t3 : h3 65 = h 65 := by rw [e3, st_row _ _ _ (by decide)]
  have A3 : isAll h3 S := fun j j0 j1 => by rw [e3, st_cell _ _ _ _ (by decide)]; exact A j j0 j1
  rw [t3]
  refine (c_X9_slack sA A3 ok hk).eq ((c_X9_cut sA A3 ok (by omega)).eq ⟨hN.1, hN.2, fun h11 e11 => ?_⟩)
  have t11 : h11 65 = h 65 := by rw [e11, st_row _ _ _ (by decide)]; exact t3
  have A11 : isAll h11 S := fun j j0 j1 => by rw [e11, st_cell _ _ _ _ (by decide)]; exact A3 j j0 j1
  rw [t11]
  refine (c_X9_weight sA A11 ok hk).eq ⟨hN.1, hN.2, fun h17 e17 => ?_⟩
  have t17 : h17 65 = h 65 := by rw [e17, st_row _ _ _ (by decide)]; exact t11
  rw [t17]
  have fin : ∀ (c : Int) (h23 h25 : AH), h23 = st h17 80 (h 65 20) c → h25 = st h23 65 20 (h23 65 20 + 1) → cmM h h25 (min (h 65 23 + slk S k) (S 98)) (wgt S k) c := by
    intro c h23 h25 e23 e25
    have t23 : h23 65 20 = h 65 20 := by rw [e23, st_cell _ _ _ _ (by decide), t17]
    rw [t23] at e25
    have U : ∀ (f g : Int → Int) (i v j : Int), (∀ j, f j = g j) → (if j = i then v else f j) = up g i v j := fun f g i v j e => by rw [up, e]
    refine ⟨by rw [e25, st_same], fun i hi => by rw [e25, st_slot _ _ _ _ hi, e23, st_cell _ _ _ _ (by decide), t17], fun j => ?_, fun j => ?_, fun j => ?_, fun j => ?_, fun b b1 b2 => ?_⟩
    · rw [e25, st_cell _ _ _ _ (by decide), e23, st_cell _ _ _ _ (by decide), e17, st_cell _ _ _ _ (by decide), e11, st_cell _ _ _ _ (by decide), e3, up]
      split
      · next z => rw [z, st_same]
      · next z => rw [st_slot _ _ _ _ z]
    · rw [e25, st_cell _ _ _ _ (by decide), e23, st_cell _ _ _ _ (by decide), e17, st_cell _ _ _ _ (by decide), e11, up]
      split
      · next z => rw [z, st_same]
      · next z => rw [st_slot _ _ _ _ z, e3, st_cell _ _ _ _ (by decide)]
    · rw [e25, st_cell _ _ _ _ (by decide), e23, st_cell _ _ _ _ (by decide), e17, up]
      split
      · next z => rw [z, st_same]
      · next z => rw [st_slot _ _ _ _ z, e11, st_cell _ _ _ _ (by decide), e3, st_cell _ _ _ _ (by decide)]
    · rw [e25, st_cell _ _ _ _ (by decide), e23, up]
      split
      · next z => rw [z, st_same]
      · next z => rw [st_slot _ _ _ _ z, e17, st_cell _ _ _ _ (by decide), e11, st_cell _ _ _ _ (by decide), e3, st_cell _ _ _ _ (by decide)]
    · rw [e25, st_row _ _ _ b1, e23, st_row _ _ _ (by omega), e17, st_row _ _ _ (by omega), e11, st_row _ _ _ (by omega), e3, st_row _ _ _ (by omega)]
  refine ⟨by omega, by omega, fun c => ⟨hN.1, hN.2, fun h23 e23 h25 e25 => ?_⟩, fun c => ⟨hN.1, hN.2, fun h31 e31 h33 e33 => ?_⟩⟩
  · have F := fin (-1) h23 h25 e23 e25
    rw [if_neg c, F.1, show h 65 20 + 1 - 1 = h 65 20 by omega]
    exact ⟨hN.1, hN.2, by rw [F.2.2.2.1, up_s], F⟩
  · have F := fin (h 65 23) h31 h33 e31 e33
    rw [if_pos c, F.1, show h 65 20 + 1 - 1 = h 65 20 by omega]
    exact ⟨hN.1, hN.2, by rw [F.2.2.2.1, up_s], F⟩
/-- the calls of a row of timers have come -/
def cmR (S : Int → Int) (h h' : AH) (P : List (Int × Int)) : Prop := h' 65 20 = h 65 20 + P.length ∧ (∀ i, i ≠ 20 → h' 65 i = h 65 i) ∧ (∀ k, k < h 65 20 → h' 77 k = h 77 k ∧ h' 78 k = h 78 k ∧ h' 79 k = h 79 k ∧ h' 80 k = h 80 k) ∧ (∀ (i : Nat) (x : Int × Int), P[i]? = some x → h' 77 (h 65 20 + i) = h 65 23 ∧ h' 78 (h 65 20 + i) = min (h 65 23 + slk S (S (24 + x.2))) (S 98) ∧ h' 79 (h 65 20 + i) = wgt S (S (24 + x.2)) ∧ h' 80 (h 65 20 + i) = -1) ∧ ∀ b, b ≠ 65 → (b < 77 ∨ 80 < b) → h' b = h b
theorem cmR_rfl (S : Int → Int) (h : AH) : cmR S h h [] := ⟨by simp, fun _ _ => rfl, fun _ _ => ⟨rfl, rfl, rfl, rfl⟩, fun i x hx => by simp at hx, fun _ _ _ => rfl⟩
theorem cmR_add {h1 h2 : AH} {P : List (Int × Int)} {u t : Int} (a : cmR S h h1 P) (b : cmM h1 h2 (min (h 65 23 + slk S (S (24 + t))) (S 98)) (wgt S (S (24 + t))) (-1)) : cmR S h h2 (P ++ [(u, t)]) := by
  obtain ⟨a1, a2, a3, a4, a5⟩ := a
  obtain ⟨b1, b2, b3, b4, b5, b6, b7⟩ := b
  have e23 := a2 23 (by decide)
  refine ⟨by rw [b1, a1, List.length_append]; simp; omega, fun i hi => (b2 i hi).trans (a2 i hi), fun k hk => ?_, fun i x hx => ?_, fun b c1 c2 => (b7 b c1 c2).trans (a5 b c1 c2)⟩
  · have := a3 k hk
    rw [b3, b4, b5, b6, up_o _ _ (by omega), up_o _ _ (by omega), up_o _ _ (by omega), up_o _ _ (by omega)]
    exact this
  · rw [b3, b4, b5, b6, e23]
    by_cases c : i < P.length
    · rw [List.getElem?_append_left c] at hx
      rw [up_o _ _ (by omega), up_o _ _ (by omega), up_o _ _ (by omega), up_o _ _ (by omega)]
      exact a4 i x hx
    · rw [List.getElem?_append_right (by omega)] at hx
      have hi : i = P.length := by
        have := (List.getElem?_eq_some_iff.mp hx).1
        simp at this
        omega
      rw [hi, Nat.sub_self] at hx
      have ex : (u, t) = x := Option.some.inj hx
      rw [← ex, hi, ← a1, up_s, up_s, up_s, up_s]
      exact ⟨rfl, rfl, rfl, rfl⟩
theorem c_X9_callsNow (sA : shA w) (A : isAll h S) (ok : okS S) (hu : 0 ≤ h 65 23 ∧ h 65 23 ≤ 301) (hl : -1 ≤ h 65 22 ∧ h 65 22 ≤ 400) (hlu : h 65 22 ≠ h 65 23) (h0 : 0 ≤ h 65 20) (hN : h 65 20 + (rowT S (h 65 23) (S 97).toNat).length ≤ 300) : CV mX9_callsNow [vR 65] w h (fun h' => (h 65 23 ≤ S 98 → cmR S h h' (rowT S (h 65 23) (S 97).toNat)) ∧ (¬ h 65 23 ≤ S 98 → h' = h)) := by
  have l2 := ok.2.1
  have l3 := ok.2.2.1
  have key : ∀ (d k : Nat) (h1 : AH), k + d = (S 97).toNat → (h 65 23 ≤ S 98 → cmR S h h1 (rowT S (h 65 23) k)) → (¬ h 65 23 ≤ S 98 → h1 = h) → XV mX9_callsNow 4 [some (vR 65), none, some (vI k)] [] w h1 (fun h' => (h 65 23 ≤ S 98 → cmR S h h' (rowT S (h 65 23) (S 97).toNat)) ∧ (¬ h 65 23 ≤ S 98 → h' = h)) := by
    intro d
    have all1 : ∀ h1 : AH, (∀ k : Nat, (h 65 23 ≤ S 98 → cmR S h h1 (rowT S (h 65 23) k)) → (¬ h 65 23 ≤ S 98 → h1 = h) → isAll h1 S) := by
      intro h1 k r1 r2
      by_cases c : h 65 23 ≤ S 98
      · intro j j0 j1; rw [(r1 c).2.2.2.2 66 (by decide) (by decide)]; exact A j j0 j1
      · rw [r2 c]; exact A
    induction d with
    | zero =>
      intro k h1 hk r1 r2
      have A1 := all1 h1 k r1 r2
      refine r_X9_callsNow_4 sA ?_
      rw [A1 97 (by omega) (by omega)]
      refine ⟨by omega, by omega, fun _ => ?_, fun c => absurd c (by omega)⟩
      rw [← show k = (S 97).toNat by omega]; exact ⟨r1, r2⟩
    | succ d ih =>
      intro k h1 hk r1 r2
      have A1 := all1 h1 k r1 r2
      have e23 : h1 65 23 = h 65 23 := by
        by_cases c : h 65 23 ≤ S 98
        · exact (r1 c).2.1 23 (by decide)
        · rw [r2 c]
      refine r_X9_callsNow_4 sA ?_
      rw [A1 97 (by omega) (by omega), A1 98 (by omega) (by omega), e23]
      refine ⟨by omega, by omega, fun c => absurd c (by omega), fun _ => ⟨by omega, by omega, fun c => ⟨fun z => absurd z (by omega), r2⟩, fun c => (c_X9_calls sA A1 ok (by omega) (by omega)).eq ?_⟩⟩
      have R := r1 (by omega)
      by_cases cc : calS S k (h 65 23)
      · rw [if_pos cc]
        have kb := (ok.2.2.2.2.2.2 (k : Int) (by omega) (by omega)).1
        have rl := rowT_len S (h 65 23) (show k + 1 ≤ (S 97).toNat by omega)
        have er : rowT S (h 65 23) (k + 1) = rowT S (h 65 23) k ++ [(h 65 23, (k : Int))] := by rw [rowT, if_pos cc]
        have el : (rowT S (h 65 23) (k + 1)).length = (rowT S (h 65 23) k).length + 1 := by rw [er]; simp
        have e22 := R.2.1 22 (by decide)
        have e20 := R.1
        refine ⟨by decide, fun z => absurd z (by decide), fun _ => ⟨by omega, by omega, ?_⟩⟩
        rw [A1 (24 + k) (by omega) (by omega)]
        refine (c_X9_comes sA A1 ok kb (by omega) (by omega) (by omega)).mono ?_
        rintro x h2 ⟨-, m⟩
        rw [e23, e22, if_neg hlu] at m
        refine ih (k + 1) h2 (by omega) (fun _ => ?_) (fun z => absurd (by omega) z)
        rw [er]
        exact cmR_add R m
      · rw [if_neg cc]
        refine ⟨by decide, fun _ => ih (k + 1) h1 (by omega) (fun _ => ?_) r2, fun z => absurd rfl z⟩
        rw [rowT, if_neg cc, List.append_nil]; exact R
  exact e_X9_callsNow (r_X9_callsNow_0 sA (key (S 97).toNat 0 h (by omega) (fun _ => by rw [rowT]; exact cmR_rfl S h) (fun _ => rfl)))
end
