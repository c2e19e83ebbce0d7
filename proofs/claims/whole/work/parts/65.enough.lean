/-! more slack never asks for more wakes -/
theorem few_mono {n : Int} {F L L' W W' : Int → Int} (ok : okC n F L W) (ok' : okC n F L' W') (hL : ∀ k, 0 ≤ k → k < n → L k ≤ L' k) {m m' : Int} {t t' : Int → Int} (a : fewS n F L m t) (b : fewS n F L' m' t') : m' ≤ m := by
  have key : ∀ d : Nat, (d : Int) ≤ m → (d : Int) ≤ m' → pv t d ≤ pv t' d := by
    intro d
    induction d with
    | zero => intro _ _; unfold pv; rw [if_pos (by omega), if_pos (by omega)]; omega
    | succ d ih =>
      intro h1 h2
      have p := ih (by omega) (by omega)
      obtain ⟨x1, x2⟩ := a.2.1 (d : Int) (by omega) (by omega)
      obtain ⟨y1, y2⟩ := b.2.1 (d : Int) (by omega) (by omega)
      have e : ∀ t : Int → Int, pv t ((d + 1 : Nat) : Int) = t d := fun t => by
        unfold pv
        rw [if_neg (by omega), show ((d + 1 : Nat) : Int) - 1 = d by omega]
      rw [e, e]
      rcases y2 with y2 | ⟨⟨k, k1, k2⟩, -⟩
      · exact absurd y2.1 y1
      · rcases x2 with x2 | ⟨-, x3⟩
        · exact absurd x2.1 x1
        · have := x3 k ⟨k1.1, by omega⟩
          have := hL k k1.1.1 k1.1.2
          omega
  apply Decidable.byContradiction
  intro c
  have p := key m.toNat (by have := a.1; omega) (by have := a.1; omega)
  rw [show ((m.toNat : Nat) : Int) = m by have := a.1; omega] at p
  obtain ⟨y1, y2⟩ := b.2.1 m a.1 (by omega)
  rcases y2 with y2 | ⟨⟨k, k1, k2⟩, -⟩
  · exact absurd y2.1 y1
  · have := a.2.2 k k1.1.1 k1.1.2
    omega
theorem lst_ex {L : Int → Int} {P : Int → Prop} (hP : ∀ k, P k → 0 ≤ k → 0 ≤ L k) : ∀ n : Nat, (∀ k, (0 ≤ k ∧ k < (n : Int)) → P k → 0 ≤ L k) → ∃ r, lst L (fun k => (0 ≤ k ∧ k < (n : Int)) ∧ P k) r := by
  intro n
  induction n with
  | zero => intro _; exact ⟨-1, Or.inl ⟨rfl, fun k q => by have := q.1; omega⟩⟩
  | succ n ih =>
    intro hq
    obtain ⟨r, hr⟩ := ih (fun k a b => hq k (by omega) b)
    by_cases c : P n
    · refine ⟨_, lst_iff (fun k => ?_) (lst_more (i := (n : Int)) hr (fun k q => hq k (by have := q.1; omega) q.2))⟩
      constructor
      · rintro (q | q)
        · exact ⟨by have := q.1; omega, q.2⟩
        · rw [q]; exact ⟨by omega, c⟩
      · rintro ⟨q1, q2⟩
        by_cases e : k = n
        · exact Or.inr e
        · exact Or.inl ⟨by omega, q2⟩
    · refine ⟨r, lst_iff (fun k => ?_) hr⟩
      constructor
      · rintro ⟨q1, q2⟩; exact ⟨by omega, q2⟩
      · rintro ⟨q1, q2⟩
        refine ⟨?_, q2⟩
        have : k ≠ n := fun e => c (e ▸ q2)
        omega
theorem fewS_ex {n : Int} {F L W : Int → Int} (ok : okC n F L W) : ∃ m t, fewS n F L m t := by
  have key : ∀ (d : Nat) (p : Int), 300 ≤ p + d → ∃ (m : Int) (t : Int → Int), 0 ≤ m ∧ (∀ i, 0 ≤ i → i < m → t i ≠ -1 ∧ lst L (fun k => (0 ≤ k ∧ k < n) ∧ (if i ≤ 0 then p else t (i - 1)) < F k) (t i)) ∧ ∀ k, 0 ≤ k → k < n → F k ≤ (if m ≤ 0 then p else t (m - 1)) := by
    intro d
    induction d with
    | zero =>
      intro p hp
      refine ⟨0, fun _ => 0, Int.le_refl _, fun i i0 i1 => by omega, fun k k0 k1 => ?_⟩
      have := (ok.2.1 k k0 k1).1
      rw [if_pos (by omega)]; omega
    | succ d ih =>
      intro p hp
      have n0 := ok.1
      obtain ⟨r, hr⟩ := lst_ex (L := L) (P := fun k => (0 ≤ k ∧ k < n) ∧ p < F k) (fun k q _ => by have := (ok.2.1 k q.1.1 q.1.2).1; omega) n.toNat (fun k _ q => by have := (ok.2.1 k q.1.1 q.1.2).1; omega)
      have hr2 : lst L (fun k => (0 ≤ k ∧ k < n) ∧ p < F k) r := lst_iff (fun k => ⟨fun q => q.2, fun q => ⟨by have := q.1; omega, q⟩⟩) hr
      rcases id hr2 with ⟨e, hno⟩ | ⟨⟨k, k1, k2⟩, hle⟩
      · refine ⟨0, fun _ => 0, Int.le_refl _, fun i i0 i1 => by omega, fun k k0 k1 => ?_⟩
        rw [if_pos (by omega)]
        have := hno k
        apply Decidable.byContradiction
        intro c
        exact this ⟨⟨k0, k1⟩, by omega⟩
      · have kb := (ok.2.1 k k1.1.1 k1.1.2).1
        obtain ⟨m, t, a1, a2, a3⟩ := ih r (by omega)
        refine ⟨m + 1, fun i => if i ≤ 0 then r else t (i - 1), by omega, fun i i0 i1 => ?_, fun j j0 j1 => ?_⟩
        · by_cases c : i ≤ 0
          · dsimp only
            rw [if_pos c, if_pos c]
            exact ⟨by omega, hr2⟩
          · dsimp only
            rw [if_neg c, if_neg c]
            exact a2 (i - 1) (by omega) (by omega)
        · have := a3 j j0 j1
          dsimp only
          rw [if_neg (by omega)]
          rw [show m + 1 - 1 = m by omega]
          exact this
  obtain ⟨m, t, a1, a2, a3⟩ := key 301 (-1) (by omega)
  exact ⟨m, t, a1, fun i i0 i1 => a2 i i0 i1, fun k k0 k1 => a3 k k0 k1⟩
section
variable {S : Int → Int} {k s s' : Int}
theorem near_sl (ok : okS S) (hk : 0 ≤ k ∧ k < S 96) (hs : 0 ≤ s) (hs' : 0 ≤ s') : ∀ (n : Nat) (j : Int), (j = -1 ∨ (0 ≤ j ∧ j < S 96)) → near (sl S k s) 8 n j = near (sl S k s') 8 n j := by
  intro n
  induction n with
  | zero => intro j _; rfl
  | succ n ih =>
    intro j hj
    rw [near, near]
    by_cases c : j = -1
    · rw [if_pos c, if_pos c]
    · rw [if_neg c, if_neg c]
      have k96 := ok.1
      have e1 : sl S k s j = S j := up_o _ _ (by omega)
      have e2 : sl S k s' j = S j := up_o _ _ (by omega)
      have b := (ok.2.2.2.2.2.1 j (by omega) (by omega)).1
      by_cases d : j = k
      · rw [d, sl, sl, up_s, up_s, if_pos (by omega), if_pos (by omega)]
      · have e3 : sl S k s (8 + j) = S (8 + j) := up_o _ _ (by omega)
        have e4 : sl S k s' (8 + j) = S (8 + j) := up_o _ _ (by omega)
        rw [e1, e2, e3, e4, ih (S j) (by omega)]
theorem slk_sl (ok : okS S) (hk : 0 ≤ k ∧ k < S 96) (hs : 0 ≤ s) (hss : s ≤ s') {j : Int} (hj : 0 ≤ j ∧ j < S 96) : slk (sl S k s) j ≤ slk (sl S k s') j := by
  unfold slk
  rw [near_sl ok hk hs (show 0 ≤ s' by omega) 8 j (Or.inr hj)]
  split
  · exact Int.le_refl _
  · generalize near (sl S k s') 8 8 j = r
    by_cases d : r = k
    · rw [d, sl, sl, up_s, up_s]; exact hss
    · rw [sl, sl, up_o _ _ (by omega), up_o _ _ (by omega)]; exact Int.le_refl _
/-- how many wakes FEWEST has -/
def fewM (S : Int → Int) (m : Int) : Prop := ∃ t, planS (cN S) (cF S) (cL S) (cW S) S 0 m t
theorem fewM_mono (ok : okS S) (h2 : cN S ≤ 200) (hk : 0 ≤ k ∧ k < S 96) (hs : 0 ≤ s) (hss : s ≤ s') (hs' : s' ≤ 99) {m m' : Int} (a : fewM (sl S k s) m) (b : fewM (sl S k s') m') : m' ≤ m := by
  obtain ⟨t, a⟩ := a
  obtain ⟨t', b⟩ := b
  have k96 := ok.1
  have hk8 : k < 8 := by omega
  have o1 := okC_S (sl_ok (s := s) ok hk (by omega)) (by rw [(sl_c ok hk8).1]; exact h2)
  have o2 := okC_S (sl_ok (s := s') ok hk (by omega)) (by rw [(sl_c ok hk8).1]; exact h2)
  obtain ⟨n1, f1, t1⟩ := sl_c (s := s) ok hk8
  obtain ⟨n2, f2, t2⟩ := sl_c (s := s') ok hk8
  have fa : fewS (cN (sl S k s)) (cF (sl S k s)) (cL (sl S k s)) m t := by
    rcases a with a | a | a
    · exact a.2
    · omega
    · omega
  have fb : fewS (cN (sl S k s')) (cF (sl S k s')) (cL (sl S k s')) m' t' := by
    rcases b with b | b | b
    · exact b.2
    · omega
    · omega
  rw [n1, f1] at fa o1
  rw [n2, f2] at fb o2
  refine few_mono o1 o2 (fun j j0 j1 => ?_) fa fb
  have c := (cFT_r ok j0 j1).2.1
  have d := (ok.2.2.2.2.2.2 (cT S j) c.1 c.2).1
  unfold cL
  have e1 : sl S k s (24 + cT S j) = S (24 + cT S j) := up_o _ _ (by omega)
  have e2 : sl S k s' (24 + cT S j) = S (24 + cT S j) := up_o _ _ (by omega)
  have e3 : sl S k s 98 = S 98 := up_o _ _ (by omega)
  have e4 : sl S k s' 98 = S 98 := up_o _ _ (by omega)
  rw [f1, f2, t1, t2, e1, e2, e3, e4]
  have := slk_sl ok hk hs hss d
  omega
theorem fewM_ex (ok : okS S) (h2 : cN S ≤ 200) : ∃ m, fewM S m := by
  obtain ⟨m, t, a⟩ := fewS_ex (okC_S ok h2)
  exact ⟨m, t, Or.inl ⟨rfl, a⟩⟩
theorem fewM_one (ok : okS S) (h2 : cN S ≤ 200) {m m' : Int} (a : fewM S m) (b : fewM S m') : m = m' := by
  obtain ⟨t, a⟩ := a
  obtain ⟨t', b⟩ := b
  obtain ⟨oc, hL⟩ := inv_ok ⟨ok, h2⟩
  exact (planS_one oc ok hL a b).1
def enoA (S : Int → Int) (k n x : Int) : Prop := (¬ (0 ≤ k ∧ k < S 96) ∧ x = -1) ∨ ((0 ≤ k ∧ k < S 96) ∧ ((x = -1 ∧ ∀ s, 0 ≤ s → s ≤ 99 → ∀ m, fewM (sl S k s) m → n < m) ∨ ((0 ≤ x ∧ x ≤ 99) ∧ (∃ m, fewM (sl S k x) m ∧ m ≤ n) ∧ ∀ s, 0 ≤ s → s < x → ∀ m, fewM (sl S k s) m → n < m)))
theorem enoA_one {n x x' : Int} (ok : okS S) (h2 : cN S ≤ 200) (a : enoA S k n x) (b : enoA S k n x') : x = x' := by
  rcases a with ⟨a1, a2⟩ | ⟨a1, a⟩ <;> rcases b with ⟨b1, b2⟩ | ⟨b1, b⟩
  · omega
  · exact absurd b1 a1
  · exact absurd a1 b1
  · have no : ∀ {x x' : Int}, (0 ≤ x ∧ x ≤ 99) → (∃ m, fewM (sl S k x) m ∧ m ≤ n) → (∀ m, fewM (sl S k x) m → n < m) → False := by
      rintro x x' - ⟨m, m1, m2⟩ z
      have := z m m1
      omega
    rcases a with ⟨a2, a3⟩ | ⟨a2, a3, a4⟩ <;> rcases b with ⟨b2, b3⟩ | ⟨b2, b3, b4⟩
    · omega
    · exact (no (x' := 0) b2 b3 (a3 x' b2.1 b2.2)).elim
    · exact (no (x' := 0) a2 a3 (b3 x a2.1 a2.2)).elim
    · rcases Int.lt_trichotomy x x' with c | c | c
      · exact (no (x' := 0) a2 a3 (b4 x a2.1 c)).elim
      · exact c
      · exact (no (x' := 0) b2 b3 (a4 x' b2.1 c)).elim
end
section
variable {w : WS} {h : AH} {S g F L W At : Int → Int} {k n : Int}
theorem c_X8_enough (sA : shA w) (I : invX w h S g F L W At) (hk : inR k) (hn : inR n) : CI mX8_enough [vR 1, vI k, vI n] w h (fun x h' => enoA S k n x ∧ invX w h' S g F L W At ∧ frX h h') := by
  obtain ⟨iT, iS, iC, iO, iP, iR, iH, iN, iK⟩ := id I
  have hs0 := fa_so sA iS
  have k96 := iN.1.1
  have key : ∀ (d : Nat) (a b i : Int) (h1 : AH), (0 ≤ k ∧ k < S 96) → i + d = 100 → 0 ≤ i → 0 ≤ a → a ≤ b → b ≤ 100 → b - a ≤ d → (∀ s, 0 ≤ s → s < a → ∀ m, fewM (sl S k s) m → n < m) → (∀ s, b ≤ s → s ≤ 99 → ∃ m, fewM (sl S k s) m ∧ m ≤ n) → invX w h1 S g F L W At → frX h h1 → XI mX8_enough 22 [some (vR 1), some (vI k), some (vI n), some (vI a), some (vI b), some (vI i), none] [] w h1 (fun x h' => enoA S k n x ∧ invX w h' S g F L W At ∧ frX h h') := by
    intro d
    have fin : ∀ (a b : Int) (h1 : AH), (0 ≤ k ∧ k < S 96) → 0 ≤ a → a ≤ b → b ≤ a → (∀ s, 0 ≤ s → s < a → ∀ m, fewM (sl S k s) m → n < m) → (∀ s, b ≤ s → s ≤ 99 → ∃ m, fewM (sl S k s) m ∧ m ≤ n) → invX w h1 S g F L W At → frX h h1 → ((a ≤ 99 → enoA S k n a ∧ invX w h1 S g F L W At ∧ frX h h1) ∧ (¬ a ≤ 99 → enoA S k n (-1) ∧ invX w h1 S g F L W At ∧ frX h h1)) := by
      intro a b h1 hk a0 ab ba lo hi I1 f1
      exact ⟨fun c => ⟨Or.inr ⟨hk, Or.inr ⟨⟨a0, c⟩, hi a ba c, lo⟩⟩, I1, f1⟩, fun c => ⟨Or.inr ⟨hk, Or.inl ⟨rfl, fun s s0 s1 => lo s s0 (by omega)⟩⟩, I1, f1⟩⟩
    induction d with
    | zero =>
      intro a b i h1 hk hi i0 a0 ab b1 hd lo hi' I1 f1
      exact r_X8_enough_22 sA ⟨by omega, fun _ => ⟨by omega, fin a b h1 hk a0 ab (by omega) lo hi' I1 f1⟩, fun c => absurd c (by omega)⟩
    | succ d ih =>
      intro a b i h1 hk hi i0 a0 ab b1 hd lo hi' I1 f1
      refine r_X8_enough_22 sA ⟨by omega, fun c => absurd c (by omega), fun _ => ⟨by omega, by omega, fun c => fin a b h1 hk a0 ab c lo hi' I1 f1, fun c => ⟨by omega, ?_⟩⟩⟩
      refine (c_X8_supposed sA I1 hk (by omega) (by omega)).mono ?_
      rintro x h2 ⟨q1, I2, f2⟩
      obtain ⟨m, t, p1, p2, p3⟩ := q1.1 rfl
      have fm : fewM (sl S k ((a + b) / 2)) x := ⟨t, by rw [p3]; exact p1⟩
      have cn := (sl_c (s := (a + b) / 2) iN.1 (show k < 8 by omega)).1
      have n2 := iN.2
      have okw := planS_okW (okC_S (sl_ok (s := (a + b) / 2) iN.1 hk (by omega)) (by rw [cn]; exact iN.2)) (sl_ok (s := (a + b) / 2) iN.1 hk (by omega)) (fun j _ _ => by unfold cL; omega) p1
      have x0 := okw.1
      refine ⟨by omega, hn, fun c2 => ?_, fun c2 => ?_⟩
      · refine ih _ _ _ h2 hk (by omega) (by omega) (by omega) (by omega) b1 (by omega) (fun s s0 s1 m' hm' => ?_) hi' I2 (frX_tr f1 f2)
        have := fewM_mono iN.1 iN.2 hk s0 (show s ≤ (a + b) / 2 by omega) (by omega) hm' fm
        omega
      · refine ih _ _ _ h2 hk (by omega) (by omega) a0 (by omega) (by omega) (by omega) lo (fun s s0 s1 => ?_) I2 (frX_tr f1 f2)
        by_cases e : b ≤ s
        · exact hi' s e s1
        · obtain ⟨m', r1⟩ := fewM_ex (S := sl S k s) (sl_ok iN.1 hk (by omega)) (by rw [(sl_c (s := s) iN.1 (show k < 8 by omega)).1]; exact iN.2)
          have := fewM_mono iN.1 iN.2 hk (show 0 ≤ (a + b) / 2 by omega) s0 s1 fm r1
          exact ⟨m', r1, by omega⟩
  refine e_X8_enough (r_X8_enough_0 sA ?_)
  rw [iS.2.1]
  refine ⟨hs0.1, hk, by omega, fun c => ?_, fun c => ⟨Or.inl ⟨c, rfl⟩, I, frX_rfl h⟩⟩
  exact key 100 0 100 0 h c (by omega) (by omega) (by omega) (by omega) (by omega) (by omega) (fun s s0 s1 => by omega) (fun s s0 s1 => by omega) I (frX_rfl h)
end
