/-! ===== what is meant: the setup S, by the layout: parents 0.., slacks 8.., weights 16.., timers' classes 24.., periods 48.., ticks 72.., 96 classes, 97 timers, 98 length, 99 price, 100 stay ===== -/
def okS (S : Int → Int) : Prop :=
  (0 ≤ S 96 ∧ S 96 ≤ 8) ∧ (0 ≤ S 97 ∧ S 97 ≤ 24) ∧ (1 ≤ S 98 ∧ S 98 ≤ 300) ∧ (1 ≤ S 99 ∧ S 99 ≤ 99) ∧ (0 ≤ S 100 ∧ S 100 ≤ 20) ∧
  (∀ k, 0 ≤ k → k < S 96 → (-1 ≤ S k ∧ S k < k) ∧ (-1 ≤ S (8 + k) ∧ S (8 + k) ≤ 99) ∧ (-1 ≤ S (16 + k) ∧ S (16 + k) ≤ 9)) ∧
  (∀ t, 0 ≤ t → t < S 97 → (0 ≤ S (24 + t) ∧ S (24 + t) < S 96) ∧ (0 ≤ S (48 + t) ∧ S (48 + t) ≤ 60) ∧ (0 ≤ S (72 + t) ∧ S (72 + t) ≤ 300))
/-- the nearest class, itself first, that has a number of its own in the row 'at' -/
def near (S : Int → Int) (at_ : Int) : Nat → Int → Int
  | 0, _ => -1
  | n + 1, k => if k = -1 then -1 else if S (at_ + k) ≠ -1 then k else near S at_ n (S k)
def slk (S : Int → Int) (k : Int) : Int := if near S 8 8 k = -1 then 0 else S (8 + near S 8 8 k)
def wgt (S : Int → Int) (k : Int) : Int := if near S 16 8 k = -1 then 1 else S (16 + near S 16 8 k)
/-- whether a timer calls at a tick -/
abbrev calS (S : Int → Int) (t u : Int) : Prop := u - S (72 + t) = 0 ∨ (0 < u - S (72 + t) ∧ 0 < S (48 + t) ∧ (u - S (72 + t)) % S (48 + t) = 0)
theorem near_r {S : Int → Int} (ok : okS S) (at_ : Int) : ∀ (n : Nat) (k : Int), (k = -1 ∨ (0 ≤ k ∧ k < S 96)) → near S at_ n k = -1 ∨ (0 ≤ near S at_ n k ∧ near S at_ n k < S 96 ∧ S (at_ + near S at_ n k) ≠ -1) := by
  intro n
  induction n with
  | zero => intro k _; exact Or.inl rfl
  | succ n ih =>
    intro k hk
    unfold near
    split
    · exact Or.inl rfl
    · split
      · right; refine ⟨by omega, by omega, by assumption⟩
      · refine ih _ ?_
        have := (ok.2.2.2.2.2.1 k (by omega) (by omega)).1
        omega
theorem slk_r {S : Int → Int} (ok : okS S) {k : Int} (h0 : 0 ≤ k) (h1 : k < S 96) : 0 ≤ slk S k ∧ slk S k ≤ 99 := by
  unfold slk
  rcases near_r ok 8 8 k (Or.inr ⟨h0, h1⟩) with e | ⟨e1, e2, e3⟩
  · rw [if_pos e]; omega
  · have := (ok.2.2.2.2.2.1 _ e1 e2).2.1
    rw [if_neg (by omega)]; omega
theorem wgt_r {S : Int → Int} (ok : okS S) {k : Int} (h0 : 0 ≤ k) (h1 : k < S 96) : 0 ≤ wgt S k ∧ wgt S k ≤ 9 := by
  unfold wgt
  rcases near_r ok 16 8 k (Or.inr ⟨h0, h1⟩) with e | ⟨e1, e2, e3⟩
  · rw [if_pos e]; omega
  · have := (ok.2.2.2.2.2.1 _ e1 e2).2.2
    rw [if_neg (by omega)]; omega
