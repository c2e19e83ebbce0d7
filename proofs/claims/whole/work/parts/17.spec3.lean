/-! rows of calls: F from, L latest, W weight -/
/-- the row c holds these calls -/
def isC (w : WS) (h : AH) (c n : Int) (F L W : Int → Int) : Prop := (h c 4 = n ∧ n ≤ wl w (c + 1)) ∧ ∀ k, 0 ≤ k → k < n → h (c + 1) k = F k ∧ h (c + 2) k = L k ∧ h (c + 3) k = W k
/-- calls as they can be, by their FROM -/
def okC (n : Int) (F L W : Int → Int) : Prop := (0 ≤ n ∧ n ≤ 300) ∧ (∀ k, 0 ≤ k → k < n → (0 ≤ F k ∧ F k ≤ L k ∧ L k ≤ 300 ∧ L k ≤ F k + 99) ∧ (0 ≤ W k ∧ W k ≤ 9)) ∧ ∀ j k, 0 ≤ j → j ≤ k → k < n → F j ≤ F k
/-- all waits of n calls from i on, were they answered at u -/
def wsum (F W : Int → Int) (u : Int) : Nat → Int → Int
  | 0, _ => 0
  | n + 1, i => W i * (u - F i) + wsum F W u n (i + 1)
/-- the least L of those with P; none: -1 -/
def lst (L : Int → Int) (P : Int → Prop) (r : Int) : Prop := (r = -1 ∧ ∀ k, ¬ P k) ∨ ((∃ k, P k ∧ L k = r) ∧ ∀ k, P k → r ≤ L k)
theorem lst_one {L : Int → Int} {P : Int → Prop} (hL : ∀ k, P k → 0 ≤ L k) {r r' : Int} (a : lst L P r) (b : lst L P r') : r = r' := by
  rcases a with ⟨a1, a2⟩ | ⟨⟨k, a1, a2⟩, a3⟩ <;> rcases b with ⟨b1, b2⟩ | ⟨⟨j, b1, b2⟩, b3⟩
  · omega
  · exact absurd b1 (a2 j)
  · exact absurd a1 (b2 k)
  · have := a3 j b1
    have := b3 k a1
    omega
theorem lst_iff {L : Int → Int} {P P' : Int → Prop} (h : ∀ k, P k ↔ P' k) {r : Int} (a : lst L P r) : lst L P' r := by
  rcases a with ⟨a1, a2⟩ | ⟨⟨k, a1, a2⟩, a3⟩
  · exact Or.inl ⟨a1, fun k q => a2 k ((h k).mpr q)⟩
  · exact Or.inr ⟨⟨k, (h k).mp a1, a2⟩, fun j q => a3 j ((h j).mpr q)⟩
theorem lst_L {L L' : Int → Int} {P : Int → Prop} (h : ∀ k, P k → L k = L' k) {r : Int} (a : lst L P r) : lst L' P r := by
  rcases a with ⟨a1, a2⟩ | ⟨⟨k, a1, a2⟩, a3⟩
  · exact Or.inl ⟨a1, a2⟩
  · exact Or.inr ⟨⟨k, a1, (h k a1) ▸ a2⟩, fun j q => (h j q) ▸ a3 j q⟩
/-- one more is looked at -/
theorem lst_more {L : Int → Int} {P : Int → Prop} {i r : Int} (a : lst L P r) (hP : ∀ k, P k → 0 ≤ L k) : lst L (fun k => P k ∨ k = i) (if r = -1 ∨ L i < r then L i else r) := by
  rcases a with ⟨a1, a2⟩ | ⟨⟨k, a1, a2⟩, a3⟩
  · rw [if_pos (Or.inl a1)]
    refine Or.inr ⟨⟨i, Or.inr rfl, rfl⟩, ?_⟩
    rintro k (q | rfl)
    · exact absurd q (a2 k)
    · exact Int.le_refl _
  · by_cases c : L i < r
    · rw [if_pos (Or.inr c)]
      refine Or.inr ⟨⟨i, Or.inr rfl, rfl⟩, ?_⟩
      rintro j (q | rfl)
      · have := a3 j q; omega
      · exact Int.le_refl _
    · by_cases e : r = -1
      · have := hP k a1; omega
      · rw [if_neg (by omega)]
        refine Or.inr ⟨⟨k, Or.inl a1, a2⟩, ?_⟩
        rintro j (q | rfl)
        · exact a3 j q
        · omega
theorem lst_r {L : Int → Int} {P : Int → Prop} (hL : ∀ k, P k → 0 ≤ L k ∧ L k ≤ 300) {r : Int} (a : lst L P r) : -1 ≤ r ∧ r ≤ 300 := by
  rcases a with ⟨a1, a2⟩ | ⟨⟨k, a1, a2⟩, a3⟩
  · omega
  · have := hL k a1; omega
theorem mul_r {x y a b : Int} (hx : 0 ≤ x ∧ x ≤ a) (hy : -b ≤ y ∧ y ≤ b) : -(a * b) ≤ x * y ∧ x * y ≤ a * b := by
  have h1 : x * y ≤ x * b := Int.mul_le_mul_of_nonneg_left hy.2 hx.1
  have h2 : x * (-b) ≤ x * y := Int.mul_le_mul_of_nonneg_left hy.1 hx.1
  have h3 : x * b ≤ a * b := Int.mul_le_mul_of_nonneg_right hx.2 (by omega)
  rw [Int.mul_neg] at h2
  omega
theorem wsum_r {n : Int} {F L W : Int → Int} (ok : okC n F L W) {u : Int} (hu : -1 ≤ u ∧ u ≤ 400) : ∀ (m : Nat) (i : Int), 0 ≤ i → i + m ≤ n → -(3600 * m) ≤ wsum F W u m i ∧ wsum F W u m i ≤ 3600 * m := by
  intro m
  induction m with
  | zero => intro i _ _; simp [wsum]
  | succ m ih =>
    intro i h0 h1
    have := ih (i + 1) (by omega) (by omega)
    obtain ⟨b1, b2⟩ := ok.2.1 i h0 (by omega)
    have := mul_r (b := 400) b2 (show -400 ≤ u - F i ∧ u - F i ≤ 400 by omega)
    unfold wsum
    omega
