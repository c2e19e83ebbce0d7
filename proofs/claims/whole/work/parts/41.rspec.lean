/-! ROUND -/
def lc (a b : Int) : Int := ((Nat.lcm a.toNat b.toNat : Nat) : Int)
theorem lc_pos {a b : Int} (ha : 0 < a) (hb : 0 < b) : 0 < lc a b := by
  have := Nat.lcm_pos (show 0 < a.toNat by omega) (show 0 < b.toNat by omega)
  unfold lc; omega
theorem lc_dvd {a b : Int} (ha : 0 < a) (hb : 0 < b) : a ∣ lc a b ∧ b ∣ lc a b := by
  have h1 := Nat.dvd_lcm_left a.toNat b.toNat
  have h2 := Nat.dvd_lcm_right a.toNat b.toNat
  unfold lc
  have e1 : ((a.toNat : Nat) : Int) = a := by omega
  have e2 : ((b.toNat : Nat) : Int) = b := by omega
  exact ⟨by have := Int.ofNat_dvd.mpr h1; rw [e1] at this; exact this, by have := Int.ofNat_dvd.mpr h2; rw [e2] at this; exact this⟩
theorem lc_le {a b c : Int} (ha : 0 < a) (hb : 0 < b) (hc : 0 < c) (h1 : a ∣ c) (h2 : b ∣ c) : lc a b ∣ c := by
  have e1 : ((a.toNat : Nat) : Int) = a := by omega
  have e2 : ((b.toNat : Nat) : Int) = b := by omega
  have e3 : ((c.toNat : Nat) : Int) = c := by omega
  rw [← e1, ← e3] at h1
  rw [← e2, ← e3] at h2
  have := Nat.lcm_dvd (Int.ofNat_dvd.mp h1) (Int.ofNat_dvd.mp h2)
  unfold lc
  rw [← e3]
  exact Int.ofNat_dvd.mpr this
/-- the least number that the first i periods divide; 0 without; -1 above 360 -/
def hyp (S : Int → Int) : Nat → Int
  | 0 => 0
  | i + 1 => if hyp S i = -1 then -1 else if S (48 + i) ≤ 0 then hyp S i else if (if hyp S i = 0 then S (48 + i) else lc (hyp S i) (S (48 + i))) ≤ 360 then (if hyp S i = 0 then S (48 + i) else lc (hyp S i) (S (48 + i))) else -1
def hyp1 (S : Int → Int) (i : Nat) : Int := if hyp S i = 0 then S (48 + i) else lc (hyp S i) (S (48 + i))
theorem hyp_s (S : Int → Int) (i : Nat) : hyp S (i + 1) = if hyp S i = -1 then -1 else if S (48 + i) ≤ 0 then hyp S i else if hyp1 S i ≤ 360 then hyp1 S i else -1 := rfl
theorem hyp_r (S : Int → Int) : ∀ i : Nat, hyp S i = -1 ∨ (0 ≤ hyp S i ∧ hyp S i ≤ 360) := by
  intro i
  induction i with
  | zero => exact Or.inr ⟨Int.le_refl _, (show (0 : Int) ≤ 360 by decide)⟩
  | succ i ih =>
    rw [hyp_s]
    split
    · exact Or.inl rfl
    · split
      · exact ih
      · split
        · right
          refine ⟨?_, by assumption⟩
          unfold hyp1
          split
          · omega
          · have := lc_pos (a := hyp S i) (b := S (48 + i)) (by omega) (by omega); omega
        · exact Or.inl rfl
theorem hyp_0 (S : Int → Int) : ∀ i : Nat, hyp S i = 0 → ∀ k : Nat, k < i → S (48 + k) ≤ 0 := by
  intro i
  induction i with
  | zero => intro _ k hk; omega
  | succ i ih =>
    intro h k hk
    rw [hyp_s] at h
    split at h
    · omega
    · next n1 =>
      split at h
      · next n2 =>
        by_cases e : k = i
        · rw [e]; exact n2
        · exact ih h k (by omega)
      · next n2 =>
        split at h
        · unfold hyp1 at h
          split at h
          · omega
          · have r := hyp_r S i
            have := lc_pos (a := hyp S i) (b := S (48 + i)) (by omega) (by omega); omega
        · omega
theorem hyp_dvd (S : Int → Int) : ∀ i : Nat, 0 < hyp S i → ∀ k : Nat, k < i → 0 < S (48 + k) → S (48 + k) ∣ hyp S i := by
  intro i
  induction i with
  | zero => intro h; exact absurd h (by show ¬ (0 : Int) < 0; omega)
  | succ i ih =>
    intro h k hk hp
    rw [hyp_s] at h ⊢
    split at h
    · omega
    · next n1 =>
      rw [if_neg n1]
      split at h
      · next n2 =>
        rw [if_pos n2]
        exact ih h k (by
          rcases Nat.lt_or_ge k i with q | q
          · exact q
          · have : k = i := by omega
            subst this
            omega) hp
      · next n2 =>
        rw [if_neg n2]
        split at h
        · next n3 =>
          rw [if_pos n3]
          have r := hyp_r S i
          unfold hyp1 at h ⊢
          by_cases e0 : hyp S i = 0
          · rw [if_pos e0]
            by_cases e : k = i
            · rw [e]; exact Int.dvd_refl _
            · have := hyp_0 S i e0 k (by omega); omega
          · rw [if_neg e0]
            have d := lc_dvd (a := hyp S i) (b := S (48 + i)) (by omega) (by omega)
            by_cases e : k = i
            · rw [e]; exact d.2
            · exact Int.dvd_trans (ih (by omega) k (by omega) hp) d.1
        · omega
def cyc (S : Int → Int) (H : Int) : Nat → Int
  | 0 => 0
  | i + 1 => cyc S H i + (if S (48 + i) ≤ 0 then 0 else H / S (48 + i))
/-- when a timer calls first behind t -/
def nx (S : Int → Int) (k t : Int) : Int := t + 1 + (S (72 + k) - (t + 1)) % S (48 + k)
def nlV (S : Int → Int) (k t : Int) : Int := nx S k t + slk S (S (24 + k))
def nlF (S : Int → Int) (t : Int) : Nat → Int
  | 0 => -1
  | i + 1 => if S (48 + i) ≤ 0 then nlF S t i else if nlF S t i = -1 ∨ nlV S i t < nlF S t i then nlV S i t else nlF S t i
/-- the least LATEST of what comes, for ever, behind t -/
def nl (S : Int → Int) (t : Int) : Int := nlF S t (S 97).toNat
theorem nx_r {S : Int → Int} {k t : Int} (hp : 0 < S (48 + k)) : t + 1 ≤ nx S k t ∧ nx S k t < t + 1 + S (48 + k) ∧ (nx S k t - S (72 + k)) % S (48 + k) = 0 := by
  have m1 := Int.emod_nonneg (S (72 + k) - (t + 1)) (show S (48 + k) ≠ 0 by omega)
  have m2 := Int.emod_lt_of_pos (S (72 + k) - (t + 1)) hp
  unfold nx
  refine ⟨by omega, by omega, ?_⟩
  have e := Int.mul_ediv_add_emod (S (72 + k) - (t + 1)) (S (48 + k))
  have : t + 1 + (S (72 + k) - (t + 1)) % S (48 + k) - S (72 + k) = S (48 + k) * (-((S (72 + k) - (t + 1)) / S (48 + k))) := by rw [Int.mul_neg]; omega
  rw [this]
  exact Int.mul_emod_right _ _
theorem nx_least {S : Int → Int} {k t u : Int} (hp : 0 < S (48 + k)) (hu : t + 1 ≤ u) (hm : (u - S (72 + k)) % S (48 + k) = 0) : nx S k t ≤ u := by
  obtain ⟨a, b, c⟩ := nx_r (S := S) (k := k) (t := t) hp
  by_cases h : nx S k t ≤ u
  · exact h
  · have d1 := Int.dvd_of_emod_eq_zero c
    have d2 := Int.dvd_of_emod_eq_zero hm
    have d3 := Int.dvd_sub d1 d2
    have := Int.le_of_dvd (by omega) d3
    omega
