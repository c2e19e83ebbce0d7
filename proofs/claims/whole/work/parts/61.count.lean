/-! how many calls there are, and how many till a tick -/
def ccT (S : Int → Int) (t : Int) : Nat → Int
  | 0 => 0
  | m + 1 => ccT S t m + (if calS S t m then 1 else 0)
def sumT (f : Int → Int) : Nat → Int
  | 0 => 0
  | n + 1 => sumT f n + f n
theorem sumT_add (f g : Int → Int) : ∀ n : Nat, sumT (fun t => f t + g t) n = sumT f n + sumT g n := by
  intro n
  induction n with
  | zero => rfl
  | succ n ih => rw [sumT, sumT, sumT, ih]; omega
theorem sumT_eq {f g : Int → Int} : ∀ n : Nat, (∀ k : Nat, k < n → f k = g k) → sumT f n = sumT g n := by
  intro n
  induction n with
  | zero => intro _; rfl
  | succ n ih => intro h; rw [sumT, sumT, ih (fun k hk => h k (by omega)), h n (by omega)]
theorem rowT_sum (S : Int → Int) (u : Int) : ∀ n : Nat, ((rowT S u n).length : Int) = sumT (fun t => if calS S t u then 1 else 0) n := by
  intro n
  induction n with
  | zero => rfl
  | succ n ih =>
    rw [sumT, ← ih, rowT, List.length_append]
    split <;> simp
theorem cls_sum (S : Int → Int) : ∀ m : Nat, ((cls S m).length : Int) = sumT (fun t => ccT S t m) (S 97).toNat := by
  intro m
  induction m with
  | zero =>
    rw [cls]
    have : ∀ n : Nat, sumT (fun t => ccT S t 0) n = 0 := by
      intro n
      induction n with
      | zero => rfl
      | succ n ih => rw [sumT, ih]; rfl
    rw [this]; rfl
  | succ m ih =>
    rw [cls, List.length_append, Int.natCast_add, ih, rowT_sum, ← sumT_add]
    rfl
theorem div_step {a p : Int} (ha : 0 ≤ a) (hp : 0 < p) : (a + 1) / p = a / p + (if (a + 1) % p = 0 then 1 else 0) := by
  have e := Int.mul_ediv_add_emod a p
  have r0 := Int.emod_nonneg a (show p ≠ 0 by omega)
  have r1 := Int.emod_lt_of_pos a hp
  by_cases c : a % p + 1 = p
  · have e2 : a + 1 = 0 + p * (a / p + 1) := by rw [Int.mul_add]; omega
    rw [e2, Int.add_mul_ediv_left _ _ (show p ≠ 0 by omega), Int.add_mul_emod_self_left]
    simp
  · have e2 : a + 1 = (a % p + 1) + p * (a / p) := by omega
    have z : (a % p + 1) / p = 0 := Int.ediv_eq_zero_of_lt (by omega) (by omega)
    have z2 : (a % p + 1) % p = a % p + 1 := Int.emod_eq_of_lt (by omega) (by omega)
    rw [e2, Int.add_mul_ediv_left _ _ (show p ≠ 0 by omega), Int.add_mul_emod_self_left, z, z2, if_neg (by omega)]
    omega
theorem ccT_eq {S : Int → Int} {t : Int} (h0 : 0 ≤ S (72 + t)) : ∀ m : Nat, ccT S t m = if (m : Int) ≤ S (72 + t) then 0 else if S (48 + t) ≤ 0 then 1 else 1 + ((m : Int) - 1 - S (72 + t)) / S (48 + t) := by
  intro m
  induction m with
  | zero => rw [ccT, if_pos (by omega)]
  | succ m ih =>
    rw [ccT, ih]
    by_cases c1 : (m : Int) < S (72 + t)
    · rw [if_pos (show (m : Int) ≤ S (72 + t) by omega), if_neg (show ¬ calS S t m by unfold calS; omega), if_pos (show ((m + 1 : Nat) : Int) ≤ S (72 + t) by omega)]
      rfl
    · by_cases c2 : (m : Int) = S (72 + t)
      · rw [if_pos (show (m : Int) ≤ S (72 + t) by omega), if_pos (show calS S t m by unfold calS; omega), if_neg (show ¬ ((m + 1 : Nat) : Int) ≤ S (72 + t) by omega)]
        split
        · rfl
        · rw [show ((m + 1 : Nat) : Int) - 1 - S (72 + t) = 0 by omega, Int.zero_ediv]; rfl
      · rw [if_neg (show ¬ (m : Int) ≤ S (72 + t) by omega), if_neg (show ¬ ((m + 1 : Nat) : Int) ≤ S (72 + t) by omega)]
        by_cases c3 : S (48 + t) ≤ 0
        · rw [if_pos c3, if_pos c3, if_neg (show ¬ calS S t m by unfold calS; omega)]; rfl
        · rw [if_neg c3, if_neg c3]
          have d := div_step (a := (m : Int) - 1 - S (72 + t)) (p := S (48 + t)) (by omega) (by omega)
          rw [show (m : Int) - 1 - S (72 + t) + 1 = (m : Int) - S (72 + t) by omega] at d
          rw [show ((m + 1 : Nat) : Int) - 1 - S (72 + t) = (m : Int) - S (72 + t) by omega, d]
          by_cases c4 : ((m : Int) - S (72 + t)) % S (48 + t) = 0
          · rw [if_pos c4, if_pos (show calS S t m from Or.inr ⟨by omega, by omega, c4⟩)]; omega
          · rw [if_neg c4, if_neg (show ¬ calS S t m from fun q => q.elim (fun q => by omega) (fun q => c4 q.2.2))]; omega
theorem inAll_sum (S : Int → Int) : ∀ n : Nat, inAll S n = sumT (fun t => if S 98 - S (72 + t) < 0 then 0 else if S (48 + t) ≤ 0 then 1 else 1 + (S 98 - S (72 + t)) / S (48 + t)) n := by
  intro n
  induction n with
  | zero => rfl
  | succ n ih => rw [inAll, sumT, ih]
theorem cN_eq {S : Int → Int} (ok : okS S) : cN S = inAll S (S 97).toNat := by
  have hL := ok.2.2.1
  have hT := ok.2.1
  rw [cN, clsA, cls_sum, inAll_sum]
  refine sumT_eq _ (fun k hk => ?_)
  have b := (ok.2.2.2.2.2.2 (k : Int) (by omega) (by omega)).2.2
  rw [ccT_eq b.1]
  by_cases c : S 98 - S (72 + (k : Int)) < 0
  · rw [if_pos (by omega), if_pos c]
  · rw [if_neg (by omega), if_neg c, show (((S 98 + 1).toNat : Nat) : Int) - 1 - S (72 + (k : Int)) = S 98 - S (72 + (k : Int)) by omega]
/-- how many have come at tick u -/
def eU (S : Int → Int) (u : Int) : Int := ((cls S (min (u + 1) (S 98 + 1)).toNat).length : Int)
theorem cls_split (S : Int → Int) {m M : Nat} (h : m ≤ M) : ∃ R, cls S M = cls S m ++ R ∧ ∀ x ∈ R, (m : Int) ≤ x.1 := by
  induction M with
  | zero => exact ⟨[], by rw [show m = 0 by omega]; simp, fun x hx => by cases hx⟩
  | succ M ih =>
    by_cases e : m = M + 1
    · exact ⟨[], by rw [e]; simp, fun x hx => by cases hx⟩
    · obtain ⟨R, e1, e2⟩ := ih (by omega)
      refine ⟨R ++ rowT S M (S 97).toNat, by rw [cls, e1, List.append_assoc], fun x hx => ?_⟩
      rcases List.mem_append.mp hx with q | q
      · exact e2 x q
      · have := (rowT_mem q).1; omega
theorem eU_r (S : Int → Int) (u : Int) : 0 ≤ eU S u ∧ eU S u ≤ cN S := by
  have := cls_len S (a := (min (u + 1) (S 98 + 1)).toNat) (b := (S 98 + 1).toNat) (by omega)
  unfold eU cN clsA
  omega
theorem eU_iff {S : Int → Int} (ok : okS S) {u k : Int} (u0 : -1 ≤ u) (h0 : 0 ≤ k) (h1 : k < cN S) : k < eU S u ↔ cF S k ≤ u := by
  have hL := ok.2.2.1
  obtain ⟨R, e1, e2⟩ := cls_split S (m := (min (u + 1) (S 98 + 1)).toNat) (M := (S 98 + 1).toNat) (by omega)
  have g := clsA_get h0 h1
  have fr := (cFT_r ok h0 h1).1
  unfold clsA at g
  rw [e1] at g
  constructor
  · intro hk
    unfold eU at hk
    rw [List.getElem?_append_left (by omega)] at g
    have := cls_mem (List.mem_of_getElem? g)
    dsimp only at this
    omega
  · intro hk
    apply Decidable.byContradiction
    intro c
    unfold eU at c
    rw [List.getElem?_append_right (by omega)] at g
    have := e2 _ (List.mem_of_getElem? g)
    dsimp only at this
    omega
theorem eU_one {S : Int → Int} (ok : okS S) {u e : Int} (u0 : -1 ≤ u) (h0 : 0 ≤ e) (h1 : e ≤ cN S) (h2 : ∀ k, 0 ≤ k → k < e → cF S k ≤ u) (h3 : ∀ k, e ≤ k → k < cN S → u < cF S k) : e = eU S u := by
  have r := eU_r S u
  rcases Int.lt_trichotomy e (eU S u) with c | c | c
  · have := (eU_iff ok u0 h0 (by omega)).mp c
    have := h3 e (Int.le_refl _) (by omega)
    omega
  · exact c
  · have a := h2 (eU S u) r.1 c
    have := (eU_iff ok u0 r.1 (by omega)).mpr a
    omega
/-- the calls of a tick stand behind those till the tick ahead of it -/
theorem eU_row {S : Int → Int} (ok : okS S) {u : Int} (u0 : 0 ≤ u) (u1 : u ≤ S 98) : eU S u = eU S (u - 1) + (rowT S u (S 97).toNat).length ∧ ∀ (i : Nat) (x : Int × Int), (rowT S u (S 97).toNat)[i]? = some x → cF S (eU S (u - 1) + i) = u ∧ cT S (eU S (u - 1) + i) = x.2 := by
  have ea : (min (u - 1 + 1) (S 98 + 1)).toNat = u.toNat := by omega
  have eb : (min (u + 1) (S 98 + 1)).toNat = u.toNat + 1 := by omega
  have ec : ((u.toNat : Nat) : Int) = u := by omega
  have ev : eU S u = eU S (u - 1) + (rowT S u (S 97).toNat).length := by
    unfold eU
    rw [ea, eb, cls, List.length_append, ec]; omega
  refine ⟨ev, fun i x hx => ?_⟩
  obtain ⟨R, e1, e2⟩ := cls_split S (m := u.toNat + 1) (M := (S 98 + 1).toNat) (by omega)
  have hi : i < (rowT S u (S 97).toNat).length := (List.getElem?_eq_some_iff.mp hx).1
  have r := eU_r S u
  have r2 := eU_r S (u - 1)
  have el : eU S (u - 1) = ((cls S u.toNat).length : Int) := by unfold eU; rw [ea]
  have g := clsA_get (S := S) (k := eU S (u - 1) + i) (by omega) (by omega)
  unfold clsA at g
  rw [e1, cls, ec, List.getElem?_append_left (by rw [List.length_append]; omega), List.getElem?_append_right (by omega), show (eU S (u - 1) + i).toNat - (cls S u.toNat).length = i by omega, hx] at g
  have := Option.some.inj g
  have q := (rowT_mem (List.mem_of_getElem? hx)).1
  rw [this] at q ⊢
  exact ⟨q, rfl⟩
