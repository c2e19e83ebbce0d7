/-! CHEAPEST and THRIFTIEST -/
def wtB (F W : Int → Int) (p t : Int) : Nat → Int
  | 0 => 0
  | i + 1 => wtB F W p t i + (if p < F i ∧ F i ≤ t then W i * (t - F i) else 0)
/-- how many of the first i come at p or ahead of it -/
def cle (F : Int → Int) (p : Int) : Nat → Int
  | 0 => 0
  | i + 1 => cle F p i + (if F i ≤ p then 1 else 0)
def stpS (n : Int) (F W : Int → Int) (P Sy en p t : Int) : Int := if en = 0 then P + wtB F W p t n.toNat else if p = -1 then P else stp P Sy p t
abbrev lexlt (a b c d : Int) : Prop := a < c ∨ (a = c ∧ b < d)
abbrev lexle (a b c d : Int) : Prop := a < c ∨ (a = c ∧ b ≤ d)
/-- x is the best of lo .. hi: cost c, m wakes -/
def bst (g : Int → Int → Int) (BC BM : Int → Int) (p lo hi x c m : Int) : Prop := (lo ≤ x ∧ x ≤ hi) ∧ (c = g p x + BC x ∧ m = 1 + BM x) ∧ ∀ t, lo ≤ t → t ≤ hi → lexle c m (g p t + BC t) (1 + BM t) ∧ (t < x → lexlt c m (g p t + BC t) (1 + BM t))
def isB (n : Int) (F L : Int → Int) (g : Int → Int → Int) (BC BM BN : Int → Int) (p : Int) : Prop :=
  ((∀ k, 0 ≤ k → k < n → F k ≤ p) ∧ BC p = 0 ∧ BM p = 0 ∧ BN p = -1) ∨
  ∃ d, d ≠ -1 ∧ lst L (fun k => (0 ≤ k ∧ k < n) ∧ p < F k) d ∧ bst g BC BM p (p + 1) d (BN p) (BC p) (BM p)
def tblS (n : Int) (F L : Int → Int) (g : Int → Int → Int) (len : Int) (BC BM BN : Int → Int) : Prop := ∀ p, -1 ≤ p → p ≤ len → isB n F L g BC BM BN p
theorem bst_one {g : Int → Int → Int} {BC BM BC' BM' : Int → Int} {p lo hi x c m x' c' m' : Int} (he : ∀ t, lo ≤ t → t ≤ hi → BC t = BC' t ∧ BM t = BM' t) (a : bst g BC BM p lo hi x c m) (b : bst g BC' BM' p lo hi x' c' m') : x = x' ∧ c = c' ∧ m = m' := by
  obtain ⟨⟨a1, a2⟩, ⟨a3, a4⟩, a5⟩ := a
  obtain ⟨⟨b1, b2⟩, ⟨b3, b4⟩, b5⟩ := b
  have e1 := he x a1 a2
  have e2 := he x' b1 b2
  have u1 := a5 x' b1 b2
  have u2 := b5 x a1 a2
  rw [e2.1, e2.2, ← b3, ← b4] at u1
  rw [← e1.1, ← e1.2, ← a3, ← a4] at u2
  have ex : x = x' := by
    rcases Int.lt_trichotomy x x' with q | q | q
    · have := u2.2 q; omega
    · exact q
    · have := u1.2 q; omega
  subst ex
  exact ⟨rfl, by rw [a3, b3, e1.1], by rw [a4, b4, e1.2]⟩
theorem tblS_one {n : Int} {F L W : Int → Int} (ok : okC n F L W) {g : Int → Int → Int} {len : Int} {BC BM BN BC' BM' BN' : Int → Int} (hL : ∀ k, 0 ≤ k → k < n → L k ≤ len) (a : tblS n F L g len BC BM BN) (b : tblS n F L g len BC' BM' BN') : ∀ p, -1 ≤ p → p ≤ len → BC p = BC' p ∧ BM p = BM' p ∧ BN p = BN' p := by
  have key : ∀ (d : Nat) (p : Int), -1 ≤ p → p ≤ len → len - p ≤ d → BC p = BC' p ∧ BM p = BM' p ∧ BN p = BN' p := by
    intro d
    induction d with
    | zero =>
      intro p p0 p1 pd
      have none : ∀ k, 0 ≤ k → k < n → F k ≤ p := fun k k0 k1 => by have := (ok.2.1 k k0 k1).1; have := hL k k0 k1; omega
      rcases a p p0 p1 with ⟨-, x⟩ | ⟨d, d0, dl, -⟩
      · rcases b p p0 p1 with ⟨-, y⟩ | ⟨d, d0, dl, -⟩
        · omega
        · rcases dl with dl | ⟨⟨k, k1, -⟩, -⟩
          · exact absurd dl.1 d0
          · have := none k k1.1.1 k1.1.2; omega
      · rcases dl with dl | ⟨⟨k, k1, -⟩, -⟩
        · exact absurd dl.1 d0
        · have := none k k1.1.1 k1.1.2; omega
    | succ d ih =>
      intro p p0 p1 pd
      rcases a p p0 p1 with ⟨xa, x⟩ | ⟨d1, d0, dl, db⟩
      · rcases b p p0 p1 with ⟨-, y⟩ | ⟨d1, d0, dl, -⟩
        · omega
        · rcases dl with dl | ⟨⟨k, k1, -⟩, -⟩
          · exact absurd dl.1 d0
          · have := xa k k1.1.1 k1.1.2; omega
      · rcases b p p0 p1 with ⟨xa, y⟩ | ⟨d2, e0, el, eb⟩
        · rcases dl with dl | ⟨⟨k, k1, -⟩, -⟩
          · exact absurd dl.1 d0
          · have := xa k k1.1.1 k1.1.2; omega
        · have ed : d1 = d2 := lst_one (fun k q => by have := (ok.2.1 k q.1.1 q.1.2).1; omega) dl el
          subst ed
          have hd : d1 ≤ len := by
            rcases dl with dl | ⟨⟨k, k1, k2⟩, -⟩
            · exact absurd dl.1 d0
            · have := hL k k1.1.1 k1.1.2; omega
          have := bst_one (fun t t0 t1 => by have := ih t (by omega) (by omega) (by omega); exact ⟨this.1, this.2.1⟩) db eb
          exact ⟨this.2.1, this.2.2, this.1⟩
  exact fun p p0 p1 => key (len - p).toNat p p0 p1 (by omega)
/-- the row of wakes that follows the table -/
def folS (BN : Int → Int) (m : Int) (t : Int → Int) : Prop := 0 ≤ m ∧ (∀ i, 0 ≤ i → i < m → t i = BN (pv t i) ∧ t i ≠ -1) ∧ BN (pv t m) = -1
/-- the wakes of least cost -/
def dpS (n : Int) (F L : Int → Int) (g : Int → Int → Int) (len m : Int) (t : Int → Int) : Prop := ∃ BC BM BN : Int → Int, tblS n F L g len BC BM BN ∧ folS BN m t
theorem fol_in {n : Int} {F L W : Int → Int} (ok : okC n F L W) {g : Int → Int → Int} {len m : Int} {BC BM BN t : Int → Int} (hL : ∀ k, 0 ≤ k → k < n → L k ≤ len) (hlen : 0 ≤ len) (a : tblS n F L g len BC BM BN) (b : folS BN m t) : ∀ i : Nat, (i : Int) ≤ m → -1 ≤ pv t i ∧ pv t i ≤ len := by
  intro i
  induction i with
  | zero => intro _; unfold pv; rw [if_pos (by omega)]; omega
  | succ i ih =>
    intro hi
    have p0 := ih (by omega)
    have e : pv t ((i + 1 : Nat) : Int) = t i := by unfold pv; rw [if_neg (by omega), show (((i + 1 : Nat) : Int) - 1) = (i : Int) by omega]
    rw [e]
    obtain ⟨f1, f2⟩ := b.2.1 i (by omega) (by omega)
    rcases a _ p0.1 p0.2 with ⟨-, x⟩ | ⟨d, d0, dl, db⟩
    · rw [f1] at f2; exact absurd x.2.2 f2
    · rcases dl with dl | ⟨⟨k, k1, k2⟩, -⟩
      · exact absurd dl.1 d0
      · have := hL k k1.1.1 k1.1.2
        have := db.1
        omega
theorem fol_step {n : Int} {F L W : Int → Int} (ok : okC n F L W) {g : Int → Int → Int} {len m : Int} {BC BM BN t : Int → Int} (hL : ∀ k, 0 ≤ k → k < n → L k ≤ len) (hlen : 0 ≤ len ∧ len ≤ 300) (a : tblS n F L g len BC BM BN) (b : folS BN m t) {i : Int} (i0 : 0 ≤ i) (i1 : i < m) : (pv t i < t i ∧ t i ≤ 300) ∧ ∀ k, 0 ≤ k → k < n → pv t i < F k → t i ≤ L k := by
  have p0 := fol_in ok hL hlen.1 a b i.toNat (by omega)
  rw [show ((i.toNat : Nat) : Int) = i by omega] at p0
  obtain ⟨f1, f2⟩ := b.2.1 i i0 i1
  rcases a _ p0.1 p0.2 with ⟨-, x⟩ | ⟨d, d0, dl, db⟩
  · rw [f1] at f2; exact absurd x.2.2 f2
  · rcases dl with dl | ⟨⟨k, k1, k2⟩, dm⟩
    · exact absurd dl.1 d0
    · have := hL k k1.1.1 k1.1.2
      have := db.1
      rw [← f1] at this
      exact ⟨by omega, fun j j0 j1 j2 => by have := dm j ⟨⟨j0, j1⟩, j2⟩; omega⟩
theorem dpS_okW {n : Int} {F L W : Int → Int} (ok : okC n F L W) {g : Int → Int → Int} {len m : Int} {t : Int → Int} (hL : ∀ k, 0 ≤ k → k < n → L k ≤ len) (hlen : 0 ≤ len ∧ len ≤ 300) (a : dpS n F L g len m t) : okW m t := by
  obtain ⟨BC, BM, BN, a, b⟩ := a
  exact okW_pv b.1 (fun i i0 i1 => (fol_step ok hL hlen a b i0 i1).1)
theorem dpS_kept {n : Int} {F L W : Int → Int} (ok : okC n F L W) {g : Int → Int → Int} {len m : Int} {t : Int → Int} (hL : ∀ k, 0 ≤ k → k < n → L k ≤ len) (hlen : 0 ≤ len ∧ len ≤ 300) (a : dpS n F L g len m t) : kept n F L m t := by
  obtain ⟨BC, BM, BN, a, b⟩ := a
  refine kept_pv b.1 (fun k k0 k1 => (ok.2.1 k k0 k1).1.1) (fun i i0 i1 => (fol_step ok hL hlen a b i0 i1).2) (fun k k0 k1 => ?_)
  have p0 := fol_in ok hL hlen.1 a b m.toNat (by have := b.1; omega)
  rw [show ((m.toNat : Nat) : Int) = m by have := b.1; omega] at p0
  rcases a _ p0.1 p0.2 with ⟨x, -⟩ | ⟨d, d0, dl, db⟩
  · exact x k k0 k1
  · have := db.1
    have := b.2.2
    omega
theorem dpS_one {n : Int} {F L W : Int → Int} (ok : okC n F L W) {g : Int → Int → Int} {len m m' : Int} {t t' : Int → Int} (hL : ∀ k, 0 ≤ k → k < n → L k ≤ len) (hlen : 0 ≤ len ∧ len ≤ 300) (a : dpS n F L g len m t) (b : dpS n F L g len m' t') : m = m' ∧ ∀ i, 0 ≤ i → i < m → t i = t' i := by
  obtain ⟨BC, BM, BN, a, fa⟩ := a
  obtain ⟨BC', BM', BN', b, fb⟩ := b
  have eN : ∀ p, -1 ≤ p → p ≤ len → BN p = BN' p := fun p p0 p1 => (tblS_one ok hL a b p p0 p1).2.2
  have key : ∀ (d : Nat), (d : Int) ≤ m → (d : Int) ≤ m' → ∀ i : Int, 0 ≤ i → i < d → t i = t' i := by
    intro d
    induction d with
    | zero => intro _ _ i h1 h2; omega
    | succ d ih =>
      intro h1 h2 i i0 i1
      have pre := ih (by omega) (by omega)
      by_cases e : i < d
      · exact pre i i0 e
      · have ei : i = (d : Int) := by omega
        rw [ei, (fa.2.1 d (by omega) (by omega)).1, (fb.2.1 d (by omega) (by omega)).1, ← pv_congr pre]
        have p0 := fol_in ok hL hlen.1 a fa d (by omega)
        exact eN _ p0.1 p0.2
  have m0 := fa.1
  have m1 := fb.1
  rcases Int.lt_trichotomy m m' with q | q | q
  · have pre := key m.toNat (by omega) (by omega)
    have x := fb.2.1 m m0 q
    have p0 := fol_in ok hL hlen.1 a fa m.toNat (by omega)
    rw [show ((m.toNat : Nat) : Int) = m by omega] at p0
    rw [← pv_congr (t := t) (fun j j0 j1 => pre j j0 (by omega)), ← eN _ p0.1 p0.2, fa.2.2] at x
    exact absurd x.1 x.2
  · exact ⟨q, fun i i0 i1 => key m.toNat (by omega) (by omega) i i0 (by omega)⟩
  · have pre := key m'.toNat (by omega) (by omega)
    have x := fa.2.1 m' m1 q
    have p0 := fol_in ok hL hlen.1 b fb m'.toNat (by omega)
    rw [show ((m'.toNat : Nat) : Int) = m' by omega] at p0
    rw [pv_congr (t' := t') (fun j j0 j1 => pre j j0 (by omega)), eN _ p0.1 p0.2, fb.2.2] at x
    exact absurd x.1 x.2
