/-! THE CALLS of a setup, by ticks and timers -/
def rowT (S : Int → Int) (u : Int) : Nat → List (Int × Int)
  | 0 => []
  | n + 1 => rowT S u n ++ (if calS S n u then [(u, (n : Int))] else [])
def cls (S : Int → Int) : Nat → List (Int × Int)
  | 0 => []
  | m + 1 => cls S m ++ rowT S m (S 97).toNat
def clsA (S : Int → Int) : List (Int × Int) := cls S (S 98 + 1).toNat
def cN (S : Int → Int) : Int := (clsA S).length
def cF (S : Int → Int) (k : Int) : Int := ((clsA S).getD k.toNat (0, 0)).1
def cT (S : Int → Int) (k : Int) : Int := ((clsA S).getD k.toNat (0, 0)).2
def cL (S : Int → Int) (k : Int) : Int := min (cF S k + slk S (S (24 + cT S k))) (S 98)
def cW (S : Int → Int) (k : Int) : Int := wgt S (S (24 + cT S k))
theorem rowT_len (S : Int → Int) (u : Int) {a b : Nat} (h : a ≤ b) : (rowT S u a).length ≤ (rowT S u b).length := by
  induction b with
  | zero => rw [show a = 0 by omega]; exact Nat.le_refl _
  | succ b ih =>
    by_cases e : a = b + 1
    · rw [e]; exact Nat.le_refl _
    · have := ih (by omega)
      rw [show rowT S u (b + 1) = rowT S u b ++ (if calS S b u then [(u, (b : Int))] else []) from rfl, List.length_append]
      omega
theorem cls_len (S : Int → Int) {a b : Nat} (h : a ≤ b) : (cls S a).length ≤ (cls S b).length := by
  induction b with
  | zero => rw [show a = 0 by omega]; exact Nat.le_refl _
  | succ b ih =>
    by_cases e : a = b + 1
    · rw [e]; exact Nat.le_refl _
    · have := ih (by omega)
      rw [show cls S (b + 1) = cls S b ++ rowT S b (S 97).toNat from rfl, List.length_append]
      omega
theorem rowT_mem {S : Int → Int} {u : Int} {n : Nat} {x : Int × Int} (h : x ∈ rowT S u n) : x.1 = u ∧ 0 ≤ x.2 ∧ x.2 < n ∧ calS S x.2 u := by
  induction n with
  | zero => cases h
  | succ n ih =>
    rw [show rowT S u (n + 1) = rowT S u n ++ (if calS S n u then [(u, (n : Int))] else []) from rfl] at h
    rcases List.mem_append.mp h with h | h
    · have := ih h; exact ⟨this.1, this.2.1, by omega, this.2.2.2⟩
    · by_cases c : calS S n u
      · rw [if_pos c] at h
        rw [List.mem_singleton.mp h]
        exact ⟨rfl, by simp, by simp; omega, c⟩
      · rw [if_neg c] at h; cases h
theorem cls_mem {S : Int → Int} {m : Nat} {x : Int × Int} (h : x ∈ cls S m) : 0 ≤ x.1 ∧ x.1 < m ∧ 0 ≤ x.2 ∧ x.2 < (S 97).toNat ∧ calS S x.2 x.1 := by
  induction m with
  | zero => cases h
  | succ m ih =>
    rw [show cls S (m + 1) = cls S m ++ rowT S m (S 97).toNat from rfl] at h
    rcases List.mem_append.mp h with h | h
    · have := ih h; exact ⟨this.1, by omega, this.2.2⟩
    · have := rowT_mem h
      refine ⟨by omega, by omega, this.2.1, this.2.2.1, ?_⟩
      rw [this.1]; exact this.2.2.2
theorem cls_sorted (S : Int → Int) (m : Nat) : (cls S m).Pairwise (fun a b => a.1 ≤ b.1) := by
  induction m with
  | zero => exact List.Pairwise.nil
  | succ m ih =>
    rw [show cls S (m + 1) = cls S m ++ rowT S m (S 97).toNat from rfl]
    refine List.pairwise_append.mpr ⟨ih, ?_, fun a ha b hb => ?_⟩
    · refine List.Pairwise.imp_of_mem (R := fun _ _ => True) (fun {a b} ha hb _ => ?_) ?_
      · rw [(rowT_mem ha).1, (rowT_mem hb).1]; exact Int.le_refl _
      · exact List.pairwise_of_forall (fun _ _ => trivial)
    · have h1 := cls_mem ha
      have h2 := rowT_mem hb
      omega
theorem clsA_get {S : Int → Int} {k : Int} (h0 : 0 ≤ k) (h1 : k < cN S) : (clsA S)[k.toNat]? = some (cF S k, cT S k) := by
  have hl : k.toNat < (clsA S).length := by unfold cN at h1; omega
  rw [List.getElem?_eq_getElem hl]
  unfold cF cT
  rw [List.getD_eq_getElem?_getD, List.getElem?_eq_getElem hl]
  rfl
theorem cN_0 (S : Int → Int) : 0 ≤ cN S := by unfold cN; omega
theorem cFT_r {S : Int → Int} (ok : okS S) {k : Int} (h0 : 0 ≤ k) (h1 : k < cN S) : (0 ≤ cF S k ∧ cF S k ≤ S 98) ∧ (0 ≤ cT S k ∧ cT S k < S 97) ∧ calS S (cT S k) (cF S k) := by
  have hm := cls_mem (List.mem_of_getElem? (clsA_get h0 h1))
  have := ok.2.1
  have := ok.2.2.1
  dsimp only at hm
  exact ⟨by omega, by omega, hm.2.2.2.2⟩
theorem cF_mono {S : Int → Int} {j k : Int} (h0 : 0 ≤ j) (hjk : j ≤ k) (h1 : k < cN S) : cF S j ≤ cF S k := by
  by_cases e : j = k
  · rw [e]; exact Int.le_refl _
  · have hp := cls_sorted S (S 98 + 1).toNat
    have a := clsA_get h0 (show j < cN S by omega)
    have b := clsA_get (show 0 ≤ k by omega) h1
    obtain ⟨a1, a2⟩ := List.getElem?_eq_some_iff.mp a
    obtain ⟨b1, b2⟩ := List.getElem?_eq_some_iff.mp b
    have := List.pairwise_iff_getElem.mp hp j.toNat k.toNat a1 b1 (by omega)
    change (clsA S)[j.toNat].1 ≤ (clsA S)[k.toNat].1 at this
    rw [a2, b2] at this
    exact this
theorem okC_S {S : Int → Int} (ok : okS S) (hn : cN S ≤ 200) : okC (cN S) (cF S) (cL S) (cW S) := by
  have hL := ok.2.2.1
  refine ⟨⟨cN_0 S, by omega⟩, fun k h0 h1 => ?_, fun j k h0 h1 h2 => cF_mono h0 h1 h2⟩
  obtain ⟨a, b, -⟩ := cFT_r ok h0 h1
  obtain ⟨c, -, -⟩ := ok.2.2.2.2.2.2 (cT S k) b.1 b.2
  have s1 := slk_r ok c.1 c.2
  have s2 := wgt_r ok c.1 c.2
  unfold cL cW
  exact ⟨by omega, s2⟩
/-- the first of n with P; none: -1 -/
def fstP (P : Int → Prop) (n r : Int) : Prop := (r = -1 ∧ ∀ j, 0 ≤ j → j < n → ¬ P j) ∨ ((0 ≤ r ∧ r < n ∧ P r) ∧ ∀ j, 0 ≤ j → j < r → ¬ P j)
theorem fstP_one {P : Int → Prop} {n r r' : Int} (a : fstP P n r) (b : fstP P n r') : r = r' := by
  rcases a with ⟨a1, a2⟩ | ⟨⟨a1, a2, a3⟩, a4⟩ <;> rcases b with ⟨b1, b2⟩ | ⟨⟨b1, b2, b3⟩, b4⟩
  · omega
  · exact absurd b3 (a2 r' b1 b2)
  · exact absurd a3 (b2 r a1 a2)
  · rcases Int.lt_trichotomy r r' with q | q | q
    · exact absurd a3 (b4 r a1 q)
    · exact q
    · exact absurd b3 (a4 r' b1 q)
