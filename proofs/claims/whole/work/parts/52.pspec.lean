/-! ===== what a text tells ===== -/
def up (S : Int → Int) (i v : Int) : Int → Int := fun j => if j = i then v else S j
theorem up_s (S : Int → Int) (i v : Int) : up S i v i = v := if_pos rfl
theorem up_o (S : Int → Int) {i j : Int} (v : Int) (h : j ≠ i) : up S i v j = S j := if_neg h
abbrev R4 : Type := Int × Int × Int × Int
abbrev R5 : Type := Int × Int × Int × (Int → Int) × (Int → Int)
abbrev nmA (n : Int) (B : Int → Int) (p : Int) : Prop := tkT n B p = 3 ∧ ¬ isQw (tkV n B p)
abbrev isw (n : Int) (B : Int → Int) (v p : Int) : Prop := tkT n B p = 3 ∧ tkV n B p = v
/-- a number: fault, place, behind it, the number -/
def pNum (n : Int) (B : Int → Int) (lo hi p : Int) : R4 := if tkT n B p ≠ 4 then (1, tkQ n B p, p, -1) else if tkV n B p < lo ∨ hi < tkV n B p then (3, tkQ n B p, p, -1) else (0, -1, tkE n B p, tkV n B p)
/-- the name of one of c classes -/
def pKnd (n : Int) (B N : Int → Int) (c p : Int) : R4 := if ¬ nmA n B p then (1, tkQ n B p, p, -1) else if fnd N (tkV n B p) c.toNat 0 = -1 then (2, tkQ n B p, p, -1) else (0, -1, tkE n B p, fnd N (tkV n B p) c.toNat 0)
def pOf (n : Int) (B N : Int → Int) (c p : Int) : R4 := if isw n B 486 p then pKnd n B N c (tkE n B p) else (0, -1, p, -1)
def pOpt (n : Int) (B : Int → Int) (v hi p : Int) : R4 := if isw n B v p then pNum n B 0 hi (tkE n B p) else (0, -1, p, -1)
def pSet (n : Int) (B S N : Int → Int) (i lo hi p : Int) : R5 := ((pNum n B lo hi p).1, (pNum n B lo hi p).2.1, (pNum n B lo hi p).2.2.1, up S i (pNum n B lo hi p).2.2.2, N)
def addT (S : Int → Int) (k pe ti : Int) : Int → Int := up (up (up (up S (24 + S 97) k) (48 + S 97) pe) (72 + S 97) ti) 97 (S 97 + 1)
def addK (S : Int → Int) (a b c : Int) : Int → Int := up (up (up (up S (S 96) a) (8 + S 96) b) (16 + S 96) c) 96 (S 96 + 1)
def pTim2 (n : Int) (B S N : Int → Int) (k pe p : Int) : R5 := ((pNum n B 0 300 p).1, (pNum n B 0 300 p).2.1, (pNum n B 0 300 p).2.2.1, addT S k pe (pNum n B 0 300 p).2.2.2, N)
def pTim1 (n : Int) (B S N : Int → Int) (e k p : Int) : R5 := if e = 0 then pTim2 n B S N k 0 p else if (pNum n B 1 60 p).1 ≠ 0 then ((pNum n B 1 60 p).1, (pNum n B 1 60 p).2.1, p, S, N) else pTim2 n B S N k (pNum n B 1 60 p).2.2.2 (pNum n B 1 60 p).2.2.1
/-- a line of a timer, at its word; e: every -/
def pTim (n : Int) (B S N : Int → Int) (e p : Int) : R5 := if 24 ≤ S 97 then (4, tkQ n B p, p, S, N) else if (pKnd n B N (S 96) (tkE n B p)).1 ≠ 0 then ((pKnd n B N (S 96) (tkE n B p)).1, (pKnd n B N (S 96) (tkE n B p)).2.1, p, S, N) else pTim1 n B S N e (pKnd n B N (S 96) (tkE n B p)).2.2.2 (pKnd n B N (S 96) (tkE n B p)).2.2.1
def pCls3 (n : Int) (B S N : Int → Int) (v a b p : Int) : R5 := ((pOpt n B 777297172 9 p).1, (pOpt n B 777297172 9 p).2.1, (pOpt n B 777297172 9 p).2.2.1, addK S a b (pOpt n B 777297172 9 p).2.2.2, up N (S 96) v)
def pCls2 (n : Int) (B S N : Int → Int) (v a p : Int) : R5 := if (pOpt n B 20317291 99 p).1 ≠ 0 then ((pOpt n B 20317291 99 p).1, (pOpt n B 20317291 99 p).2.1, p, S, N) else pCls3 n B S N v a (pOpt n B 20317291 99 p).2.2.2 (pOpt n B 20317291 99 p).2.2.1
def pCls1 (n : Int) (B S N : Int → Int) (v p : Int) : R5 := if (pOf n B N (S 96) p).1 ≠ 0 then ((pOf n B N (S 96) p).1, (pOf n B N (S 96) p).2.1, p, S, N) else pCls2 n B S N v (pOf n B N (S 96) p).2.2.2 (pOf n B N (S 96) p).2.2.1
/-- a line of a class, at its word -/
def pCls (n : Int) (B S N : Int → Int) (p : Int) : R5 := if 8 ≤ S 96 then (4, tkQ n B p, p, S, N) else if ¬ nmA n B (tkE n B p) then (1, tkQ n B (tkE n B p), p, S, N) else if fnd N (tkV n B (tkE n B p)) (S 96).toNat 0 ≠ -1 then (2, tkQ n B (tkE n B p), p, S, N) else pCls1 n B S N (tkV n B (tkE n B p)) (tkE n B (tkE n B p))
def pBody (n : Int) (B S N : Int → Int) (p : Int) : R5 := if isw n B 3540595 p then pCls n B S N p else if isw n B 505957 p then pTim n B S N 0 p else if isw n B 5969497 p then pTim n B S N 1 p else if isw n B 408362632 p then pSet n B S N 98 1 300 (tkE n B p) else if isw n B 17376357 p then pSet n B S N 99 1 99 (tkE n B p) else if isw n B 643129 p then pSet n B S N 100 0 20 (tkE n B p) else (1, tkQ n B p, p, S, N)
def pLine (n : Int) (B S N : Int → Int) (p : Int) : R5 := if (pBody n B S N p).1 ≠ 0 then pBody n B S N p else if tkT n B (pBody n B S N p).2.2.1 = 5 then (0, -1, tkE n B (pBody n B S N p).2.2.1, (pBody n B S N p).2.2.2) else (1, tkQ n B (pBody n B S N p).2.2.1, p, S, N)
def pTxt (n : Int) (B : Int → Int) : Nat → Int → (Int → Int) → (Int → Int) → R5
  | 0, p, S, N => (0, -1, p, S, N)
  | d + 1, p, S, N => if tkT n B p = 0 then (0, -1, p, S, N) else if (pLine n B S N p).1 ≠ 0 then pLine n B S N p else pTxt n B d (pLine n B S N p).2.2.1 (pLine n B S N p).2.2.2.1 (pLine n B S N p).2.2.2.2
def S0 : Int → Int := fun j => if j = 98 then 60 else if j = 99 then 10 else if j = 100 then 1 else 0
/-- the whole text: a fault's kind and place, else all that it tells -/
def pAll (n : Int) (B : Int → Int) : R5 := if (pTxt n B 600 0 S0 (fun _ => 0)).1 ≠ 0 then pTxt n B 600 0 S0 (fun _ => 0) else if inAll (pTxt n B 600 0 S0 (fun _ => 0)).2.2.2.1 ((pTxt n B 600 0 S0 (fun _ => 0)).2.2.2.1 97).toNat ≤ 200 then pTxt n B 600 0 S0 (fun _ => 0) else (5, n, 0, S0, fun _ => 0)
/-! tokens' values -/
theorem rnS_all {n : Int} {B : Int → Int} {c : Int} : ∀ (d : Nat) (p i : Int), p ≤ i → i < rnS n B c d p → srt n B i = c := by
  intro d
  induction d with
  | zero => intro p i h1 h2; rw [rnS] at h2; omega
  | succ d ih =>
    intro p i h1 h2
    rw [rnS] at h2
    split at h2
    · by_cases e : i = p
      · rw [e]; assumption
      · exact ih (p + 1) i (by omega) h2
    · omega
theorem srt_3 {n : Int} {B : Int → Int} {i : Int} (h : srt n B i = 3) : 97 ≤ B i ∧ B i ≤ 122 := by
  rw [srt] at h
  split at h
  · omega
  · rw [srC] at h
    split at h
    · assumption
    · split at h
      · omega
      · split at h
        · omega
        · split at h <;> omega
theorem srt_4 {n : Int} {B : Int → Int} {i : Int} (h : srt n B i = 4) : 48 ≤ B i ∧ B i ≤ 57 := by
  rw [srt] at h
  split at h
  · omega
  · rw [srC] at h
    split at h
    · omega
    · split at h
      · assumption
      · split at h
        · omega
        · split at h <;> omega
theorem vlS_num {B : Int → Int} {q : Int} : ∀ k : Nat, (∀ i, q ≤ i → i < q + k → 48 ≤ B i ∧ B i ≤ 57) → 0 ≤ vlS B 10 48 q k ∧ vlS B 10 48 q k < (10 : Int) ^ k := by
  intro k
  induction k with
  | zero => intro _; rw [vlS]; exact ⟨Int.le_refl _, by decide⟩
  | succ k ih =>
    intro h
    have a := ih (fun i i0 i1 => h i i0 (by omega))
    have b := h (q + k) (by omega) (by omega)
    rw [vlS, Int.pow_succ]
    omega
def dg : Nat → Int → Prop
  | 0, v => v = 0
  | k + 1, v => v % 32 ≤ 26 ∧ dg k (v / 32)
def c27 : Nat → Int → Int
  | 0, _ => 0
  | k + 1, v => v % 32 + 27 * c27 k (v / 32)
theorem dg_0 : ∀ k : Nat, dg k 0 := by
  intro k
  induction k with
  | zero => rfl
  | succ k ih => exact ⟨by decide, ih⟩
theorem c27_0 : ∀ k : Nat, c27 k 0 = 0 := by
  intro k
  induction k with
  | zero => rfl
  | succ k ih => rw [c27, show (0 : Int) / 32 = 0 from rfl, ih]; rfl
theorem dg_r : ∀ (k : Nat) (v : Int), dg k v → 0 ≤ v ∧ v < (32 : Int) ^ k := by
  intro k
  induction k with
  | zero => intro v h; rw [dg] at h; rw [h]; exact ⟨Int.le_refl _, by decide⟩
  | succ k ih =>
    intro v h
    have := ih _ h.2
    rw [Int.pow_succ]
    omega
theorem c27_r : ∀ (k : Nat) (v : Int), dg k v → 0 ≤ c27 k v ∧ c27 k v < (27 : Int) ^ k := by
  intro k
  induction k with
  | zero => intro v h; rw [c27]; exact ⟨Int.le_refl _, by decide⟩
  | succ k ih =>
    intro v h
    have := ih _ h.2
    have := h.1
    rw [Int.pow_succ, c27]
    omega
theorem c27_inj : ∀ (k : Nat) (v u : Int), dg k v → dg k u → c27 k v = c27 k u → v = u := by
  intro k
  induction k with
  | zero => intro v u h1 h2 _; rw [dg] at h1 h2; omega
  | succ k ih =>
    intro v u h1 h2 e
    rw [c27, c27] at e
    have a := h1.1
    have b := h2.1
    have := ih _ _ h1.2 h2.2 (by omega)
    omega
theorem vlS_dg {B : Int → Int} {q : Int} : ∀ (l k : Nat), l ≤ k → (∀ i, q ≤ i → i < q + l → 97 ≤ B i ∧ B i ≤ 122) → dg k (vlS B 32 96 q l) ∧ c27 k (vlS B 32 96 q l) = vlS B 27 96 q l := by
  intro l
  induction l with
  | zero => intro k _ _; exact ⟨dg_0 k, c27_0 k⟩
  | succ l ih =>
    intro k hk h
    obtain ⟨j, rfl⟩ : ∃ j, k = j + 1 := ⟨k - 1, by omega⟩
    have a := ih j (by omega) (fun i i0 i1 => h i i0 (by omega))
    have b := h (q + l) (by omega) (by omega)
    have e1 : (vlS B 32 96 q l * 32 + (B (q + l) - 96)) % 32 = B (q + l) - 96 := by omega
    have e2 : (vlS B 32 96 q l * 32 + (B (q + l) - 96)) / 32 = vlS B 32 96 q l := by omega
    rw [vlS, vlS, dg, c27, e1, e2, a.2]
    exact ⟨⟨by omega, a.1⟩, by omega⟩
theorem tk_num {n p : Int} {B : Int → Int} (h : tkT n B p = 4) : 0 ≤ tkV n B p ∧ tkV n B p ≤ 999 := by
  have hs : srt n B (tkQ n B p) = 4 ∧ tkE n B p - tkQ n B p ≤ 3 := by
    rw [tkT] at h
    split at h
    · omega
    · omega
  have he : tkE n B p = rnS n B 4 (n - tkQ n B p).toNat (tkQ n B p) := by rw [tkE, if_pos (Or.inr hs.1), hs.1]
  have hr := rnS_r n B 4 (n - tkQ n B p).toNat (tkQ n B p)
  have a := vlS_num (B := B) (q := tkQ n B p) (tkE n B p - tkQ n B p).toNat (fun i i0 i1 => srt_4 (n := n) (rnS_all (c := 4) (n - tkQ n B p).toNat (tkQ n B p) i i0 (by omega)))
  rw [tkV, hs.1, if_neg (by decide), if_pos rfl]
  generalize hk : (tkE n B p - tkQ n B p).toNat = k at a ⊢
  have : k ≤ 3 := by omega
  match k, this with
  | 0, _ => simp at a; omega
  | 1, _ => simp at a; omega
  | 2, _ => simp at a; omega
  | 3, _ => simp at a; omega
theorem tk_word {n p : Int} {B : Int → Int} (h : tkT n B p = 3) : dg 6 (tkV n B p) ∧ c27 6 (tkV n B p) = vlS B 27 96 (tkQ n B p) (tkE n B p - tkQ n B p).toNat := by
  have hs : srt n B (tkQ n B p) = 3 ∧ tkE n B p - tkQ n B p ≤ 6 := by
    rw [tkT] at h
    split at h
    · omega
    · omega
  have he : tkE n B p = rnS n B 3 (n - tkQ n B p).toNat (tkQ n B p) := by rw [tkE, if_pos (Or.inl hs.1), hs.1]
  have hr := rnS_r n B 3 (n - tkQ n B p).toNat (tkQ n B p)
  rw [tkV, hs.1, if_pos rfl]
  exact vlS_dg _ 6 (by omega) (fun i i0 i1 => srt_3 (n := n) (rnS_all (c := 3) (n - tkQ n B p).toNat (tkQ n B p) i i0 (by omega)))
theorem tk_wordR {n p : Int} {B : Int → Int} (h : tkT n B p = 3) : 0 ≤ tkV n B p ∧ tkV n B p ≤ 1073741823 := by
  have := dg_r 6 _ (tk_word h).1
  have e : (32 : Int) ^ 6 = 1073741824 := by decide
  omega
