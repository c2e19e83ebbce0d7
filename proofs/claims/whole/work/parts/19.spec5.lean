/-! rows of wakes: m wakes t 0, t 1 .. -/
def isW (w : WS) (h : AH) (v m : Int) (t : Int → Int) : Prop := (h v 1 = m ∧ 0 ≤ m ∧ m ≤ wl w (v + 1)) ∧ ∀ k, 0 ≤ k → k < m → h (v + 1) k = t k
def okW (m : Int) (t : Int → Int) : Prop := (0 ≤ m ∧ m ≤ 301) ∧ (∀ k, 0 ≤ k → k < m → 0 ≤ t k ∧ t k ≤ 300) ∧ ∀ j k, 0 ≤ j → j < k → k < m → t j < t k
def ansF (t : Int → Int) (u : Int) : Nat → Int → Int
  | 0, _ => -1
  | n + 1, i => if u ≤ t i then t i else ansF t u n (i + 1)
/-- the wake that answers a call that comes at u; none: -1 -/
def an (m : Int) (t : Int → Int) (u : Int) : Int := ansF t u m.toNat 0
theorem ansF_at {t : Int → Int} {u : Int} : ∀ (n : Nat) (i p : Int), i ≤ p → p ≤ i + n → (∀ j, i ≤ j → j < p → t j < u) → (p < i + n → u ≤ t p) → ansF t u n i = if p < i + n then t p else -1 := by
  intro n
  induction n with
  | zero => intro i p h1 h2 h3 h4; rw [if_neg (by omega)]; rfl
  | succ n ih =>
    intro i p h1 h2 h3 h4
    unfold ansF
    by_cases e : p = i
    · subst e
      rw [if_pos (h4 (by omega)), if_pos (by omega)]
    · rw [if_neg (by have := h3 i (by omega) (by omega); omega), ih (i + 1) p (by omega) (by omega) (fun j a b => h3 j (by omega) b) (fun q => h4 (by omega))]
      by_cases c : p < i + (n + 1 : Nat)
      · rw [if_pos (by omega), if_pos c]
      · rw [if_neg (by omega), if_neg c]
theorem an_at {m : Int} {t : Int → Int} {u p : Int} (h0 : 0 ≤ p) (h1 : p ≤ m) (h3 : ∀ j, 0 ≤ j → j < p → t j < u) (h4 : p < m → u ≤ t p) : an m t u = if p < m then t p else -1 := by
  unfold an
  rw [ansF_at m.toNat 0 p h0 (by omega) h3 (fun q => h4 (by omega))]
  by_cases c : p < m
  · rw [if_pos (by omega), if_pos c]
  · rw [if_neg (by omega), if_neg c]
/-- where the answer stands -/
theorem an_ex (m : Int) (t : Int → Int) (u : Int) (hm : 0 ≤ m) : (an m t u = -1 ∧ ∀ j, 0 ≤ j → j < m → t j < u) ∨ ∃ p, 0 ≤ p ∧ p < m ∧ an m t u = t p ∧ u ≤ t p ∧ ∀ j, 0 ≤ j → j < p → t j < u := by
  have key : ∀ (n : Nat) (i : Int), i + n = m → 0 ≤ i → (∀ j, 0 ≤ j → j < i → t j < u) → (ansF t u n i = -1 ∧ ∀ j, 0 ≤ j → j < m → t j < u) ∨ ∃ p, 0 ≤ p ∧ p < m ∧ ansF t u n i = t p ∧ u ≤ t p ∧ ∀ j, 0 ≤ j → j < p → t j < u := by
    intro n
    induction n with
    | zero => intro i hi h0 hl; exact Or.inl ⟨rfl, fun j a b => hl j a (by omega)⟩
    | succ n ih =>
      intro i hi h0 hl
      unfold ansF
      by_cases c : u ≤ t i
      · rw [if_pos c]
        exact Or.inr ⟨i, h0, by omega, rfl, c, hl⟩
      · rw [if_neg c]
        exact ih (i + 1) (by omega) (by omega) (fun j a b => by
          by_cases e : j = i
          · rw [e]; omega
          · exact hl j a (by omega))
  exact key m.toNat 0 (by omega) (by omega) (fun j a b => by omega)
theorem an_congr {m : Int} {t t' : Int → Int} {u : Int} (h : ∀ k, 0 ≤ k → k < m → t k = t' k) : an m t u = an m t' u := by
  have key : ∀ (n : Nat) (i : Int), i + n ≤ max m 0 → 0 ≤ i → ansF t u n i = ansF t' u n i := by
    intro n
    induction n with
    | zero => intro i _ _; rfl
    | succ n ih =>
      intro i hi h0
      unfold ansF
      rw [h i h0 (by omega), ih (i + 1) (by omega) (by omega)]
  exact key m.toNat 0 (by omega) (by omega)
/-- all calls are kept -/
def kept (n : Int) (F L : Int → Int) (m : Int) (t : Int → Int) : Prop := ∀ k, 0 ≤ k → k < n → F k ≤ an m t (F k) ∧ an m t (F k) ≤ L k
/-- all waits of the first i calls -/
def wts (F W : Int → Int) (m : Int) (t : Int → Int) : Nat → Int
  | 0 => 0
  | i + 1 => wts F W m t i + W i * (an m t (F i) - F i)
def lwt (F : Int → Int) (m : Int) (t : Int → Int) : Nat → Int
  | 0 => 0
  | i + 1 => max (lwt F m t i) (an m t (F i) - F i)
/-- how many of the first i calls a wake at x answers -/
def cntA (F : Int → Int) (m : Int) (t : Int → Int) (x : Int) : Nat → Int
  | 0 => 0
  | i + 1 => cntA F m t x i + (if an m t (F i) = x then 1 else 0)
def mostA (F : Int → Int) (m : Int) (t : Int → Int) (n r : Int) : Prop := (∀ k, 0 ≤ k → k < n → cntA F m t (an m t (F k)) n.toNat ≤ r) ∧ ((n = 0 ∧ r = 0) ∨ ∃ k, 0 ≤ k ∧ k < n ∧ cntA F m t (an m t (F k)) n.toNat = r)
def stp (P Sy a b : Int) : Int := if P < Sy * (b - a) then P else Sy * (b - a)
def enI (P Sy : Int) (t : Int → Int) : Nat → Int
  | 0 => 0
  | i + 1 => enI P Sy t i + (if i = 0 then P else stp P Sy (t (i - 1)) (t i))
def awk (P Sy : Int) : Int := if Sy = 0 then 300 else P / Sy
def lvS (P Sy a b : Int) : Int := if b - a ≤ awk P Sy then Sy * (b - a) else Sy * awk P Sy + P
def lvI (P Sy : Int) (t : Int → Int) : Nat → Int
  | 0 => 0
  | i + 1 => lvI P Sy t i + (if i = 0 then P else lvS P Sy (t (i - 1)) (t i))
def lvE (P Sy len m : Int) (t : Int → Int) : Int := if m = 0 then 0 else lvI P Sy t m.toNat + Sy * min (len - t (m - 1)) (awk P Sy)
theorem mostA_one {F : Int → Int} {m : Int} {t : Int → Int} {n r r' : Int} (a : mostA F m t n r) (b : mostA F m t n r') : r = r' := by
  obtain ⟨a1, a2⟩ := a
  obtain ⟨b1, b2⟩ := b
  rcases a2 with a2 | ⟨k, k0, k1, k2⟩ <;> rcases b2 with b2 | ⟨j, j0, j1, j2⟩
  · omega
  · omega
  · omega
  · have := a1 j j0 j1
    have := b1 k k0 k1
    omega
theorem wts_r {n m : Int} {F L W t : Int → Int} (ok : okC n F L W) (kp : kept n F L m t) : ∀ i : Nat, (i : Int) ≤ n → 0 ≤ wts F W m t i ∧ wts F W m t i ≤ 891 * i := by
  intro i
  induction i with
  | zero => intro _; exact ⟨Int.le_refl _, Int.le_refl _⟩
  | succ i ih =>
    intro hi
    have := ih (by omega)
    obtain ⟨b1, b2⟩ := ok.2.1 i (by omega) (by omega)
    have k := kp i (by omega) (by omega)
    have := mul_r (b := 99) b2 (show -99 ≤ an m t (F i) - F i ∧ an m t (F i) - F i ≤ 99 by omega)
    have := Int.mul_nonneg b2.1 (show 0 ≤ an m t (F i) - F i by omega)
    unfold wts
    omega
