/-! counts over the timers, and the search of a name -/
def cntT (S : Int → Int) (k : Int) : Nat → Int
  | 0 => 0
  | n + 1 => cntT S k n + (if S (24 + n) = k then 1 else 0)
def heir (S : Int → Int) (k : Int) : Nat → Int
  | 0 => 0
  | n + 1 => if near S 8 8 n = k then orZ (heir S k n) (shlZ 1 n) else heir S k n
def inAll (S : Int → Int) : Nat → Int
  | 0 => 0
  | n + 1 => inAll S n + (if S 98 - S (72 + n) < 0 then 0 else if S (48 + n) ≤ 0 then 1 else 1 + (S 98 - S (72 + n)) / S (48 + n))
/-- the first place from i on, of n, where nm is v; none: -1 -/
def fnd (nm : Int → Int) (v : Int) : Nat → Int → Int
  | 0, _ => -1
  | n + 1, i => if nm i = v then i else fnd nm v n (i + 1)
theorem cntT_r (S : Int → Int) (k : Int) (n : Nat) : 0 ≤ cntT S k n ∧ cntT S k n ≤ n := by
  induction n with
  | zero => exact ⟨Int.le_refl _, Int.le_refl _⟩
  | succ n ih => unfold cntT; split <;> omega
theorem orZ_r (x y : Int) : inR (orZ x y) := i32_in32 _
theorem heir_r (S : Int → Int) (k : Int) (n : Nat) : inR (heir S k n) := by
  induction n with
  | zero => exact (by decide : inR 0)
  | succ n ih =>
    unfold heir
    split
    · exact orZ_r _ _
    · exact ih
theorem fnd_eq {nm nm' : Int → Int} {v v' : Int} : ∀ (n : Nat) (i : Int), (∀ k, i ≤ k → k < i + n → (nm k = v ↔ nm' k = v')) → fnd nm v n i = fnd nm' v' n i := by
  intro n
  induction n with
  | zero => intro i _; rfl
  | succ n ih =>
    intro i H
    unfold fnd
    have h0 := H i (by omega) (by omega)
    rw [ih (i + 1) (fun k a b => H k (by omega) (by omega))]
    by_cases c : nm i = v
    · rw [if_pos c, if_pos (h0.mp c)]
    · rw [if_neg c, if_neg (fun q => c (h0.mpr q))]
theorem fnd_r {nm : Int → Int} {v : Int} : ∀ (n : Nat) (i : Int), fnd nm v n i = -1 ∨ (i ≤ fnd nm v n i ∧ fnd nm v n i < i + n ∧ nm (fnd nm v n i) = v) := by
  intro n
  induction n with
  | zero => intro i; exact Or.inl rfl
  | succ n ih =>
    intro i
    unfold fnd
    split
    · right; exact ⟨by omega, by omega, by assumption⟩
    · rcases ih (i + 1) with e | e
      · exact Or.inl e
      · exact Or.inr ⟨by omega, by omega, e.2.2⟩
