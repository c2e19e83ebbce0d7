abbrev perT (S : Int → Int) (k : Int) : Prop := (0 ≤ k ∧ k < S 97) ∧ 0 < S (48 + k)
theorem nlV_ge {S : Int → Int} (ok : okS S) {k t : Int} (hk : perT S k) : t + 1 ≤ nlV S k t := by
  have := (nx_r (t := t) hk.2).1
  have b := (ok.2.2.2.2.2.2 k hk.1.1 hk.1.2).1
  have := slk_r ok b.1 b.2
  unfold nlV; omega
theorem nlF_lst {S : Int → Int} (ok : okS S) {t : Int} (ht : -1 ≤ t) : ∀ i : Nat, (i : Int) ≤ S 97 → lst (fun k => nlV S k t) (fun k => (0 ≤ k ∧ k < (i : Int)) ∧ 0 < S (48 + k)) (nlF S t i) := by
  intro i
  induction i with
  | zero => intro _; exact Or.inl ⟨rfl, fun k q => by have := q.1; omega⟩
  | succ i ih =>
    intro hi
    have l := ih (by omega)
    rw [nlF]
    by_cases c : S (48 + (i : Int)) ≤ 0
    · rw [if_pos c]
      refine lst_iff (fun k => ?_) l
      constructor
      · rintro ⟨q1, q2⟩; exact ⟨by omega, q2⟩
      · rintro ⟨q1, q2⟩
        refine ⟨?_, q2⟩
        by_cases e : k = (i : Int)
        · rw [e] at q2; omega
        · omega
    · rw [if_neg c]
      have l2 := lst_more (i := (i : Int)) l (fun k q => by have := nlV_ge ok (t := t) (k := k) ⟨⟨q.1.1, by omega⟩, q.2⟩; omega)
      refine lst_iff (fun k => ?_) l2
      constructor
      · rintro (⟨q1, q2⟩ | q)
        · exact ⟨by omega, q2⟩
        · rw [q]; exact ⟨by omega, by omega⟩
      · rintro ⟨q1, q2⟩
        by_cases e : k = (i : Int)
        · exact Or.inr e
        · exact Or.inl ⟨by omega, q2⟩
theorem nl_lst {S : Int → Int} (ok : okS S) {t : Int} (ht : -1 ≤ t) : lst (fun k => nlV S k t) (perT S) (nl S t) := by
  have hT := ok.2.1
  have := nlF_lst ok ht (S 97).toNat (by omega)
  refine lst_iff (fun k => ?_) this
  constructor
  · rintro ⟨q1, q2⟩; exact ⟨by omega, q2⟩
  · rintro ⟨q1, q2⟩; exact ⟨by omega, q2⟩
/-- there is an EVERY timer -/
def anyT (S : Int → Int) : Prop := ∃ k, perT S k
theorem nl_le {S : Int → Int} (ok : okS S) {t k : Int} (ht : -1 ≤ t) (hk : perT S k) : nl S t ≤ nlV S k t := by
  rcases nl_lst ok ht with ⟨-, q⟩ | ⟨-, q⟩
  · exact absurd hk (q k)
  · exact q k hk
theorem nl_ex {S : Int → Int} (ok : okS S) (any : anyT S) {t : Int} (ht : -1 ≤ t) : ∃ k, perT S k ∧ nlV S k t = nl S t := by
  obtain ⟨j, hj⟩ := any
  rcases nl_lst ok ht with ⟨-, q⟩ | ⟨q, -⟩
  · exact absurd hj (q j)
  · exact q
theorem nl_gt {S : Int → Int} (ok : okS S) (any : anyT S) {t : Int} (ht : -1 ≤ t) : t + 1 ≤ nl S t ∧ nl S t ≤ t + 160 := by
  obtain ⟨k, hk, e⟩ := nl_ex ok any ht
  have := nlV_ge ok (t := t) hk
  have r := nx_r (t := t) hk.2
  obtain ⟨b, b2, -⟩ := ok.2.2.2.2.2.2 k hk.1.1 hk.1.2
  have := slk_r ok b.1 b.2
  rw [← e]
  unfold nlV at *
  omega
theorem nx_mono {S : Int → Int} {k t t' : Int} (hp : 0 < S (48 + k)) (h : t ≤ t') : nx S k t ≤ nx S k t' := by
  have r := nx_r (t := t') hp
  exact nx_least hp (by omega) r.2.2
theorem nl_mono {S : Int → Int} (ok : okS S) (any : anyT S) {t t' : Int} (ht : -1 ≤ t) (h : t ≤ t') : nl S t ≤ nl S t' := by
  obtain ⟨k, hk, e⟩ := nl_ex ok any (show -1 ≤ t' by omega)
  have := nl_le ok ht hk
  have := nx_mono hk.2 h
  rw [← e]
  unfold nlV at *
  omega
theorem nx_per {S : Int → Int} {k t H : Int} (hd : S (48 + k) ∣ H) : nx S k (t + H) = nx S k t + H := by
  unfold nx
  obtain ⟨q, hq⟩ := hd
  have : S (72 + k) - (t + H + 1) = S (72 + k) - (t + 1) + S (48 + k) * (-q) := by rw [Int.mul_neg, ← hq]; omega
  rw [this, Int.add_mul_emod_self_left]
  omega
/-- a number that every period divides -/
def perH (S : Int → Int) (H : Int) : Prop := 0 < H ∧ ∀ k, perT S k → S (48 + k) ∣ H
theorem nl_per {S : Int → Int} (ok : okS S) (any : anyT S) {t H : Int} (hH : perH S H) (ht : -1 ≤ t) : nl S (t + H) = nl S t + H := by
  obtain ⟨h0, hd⟩ := hH
  obtain ⟨k, hk, e⟩ := nl_ex ok any ht
  obtain ⟨j, hj, f⟩ := nl_ex ok any (show -1 ≤ t + H by omega)
  have a := nl_le ok (show -1 ≤ t + H by omega) hk
  have b := nl_le ok ht hj
  have c := nx_per (t := t) (hd k hk)
  have d := nx_per (t := t) (hd j hj)
  unfold nlV at *
  omega
theorem hyp_perH {S : Int → Int} (ok : okS S) (h : 0 < hyp S (S 97).toNat) : perH S (hyp S (S 97).toNat) ∧ anyT S := by
  have hT := ok.2.1
  refine ⟨⟨h, fun k hk => ?_⟩, ?_⟩
  · have := hyp_dvd S (S 97).toNat h k.toNat (by have := hk.1; omega) (by rw [show ((k.toNat : Nat) : Int) = k by have := hk.1; omega]; exact hk.2)
    rw [show ((k.toNat : Nat) : Int) = k by have := hk.1; omega] at this
    exact this
  · apply Classical.byContradiction
    intro no
    have all : ∀ i : Nat, (i : Int) ≤ S 97 → hyp S i = 0 := by
      intro i
      induction i with
      | zero => intro _; rfl
      | succ i ih =>
        intro hi
        have e := ih (by omega)
        have np : S (48 + (i : Int)) ≤ 0 := by
          apply Classical.byContradiction
          intro q
          exact no ⟨(i : Int), ⟨by omega, by omega⟩, by omega⟩
        rw [hyp_s, if_neg (by omega), if_pos np, e]
    have := all (S 97).toNat (by omega)
    omega
/-- the chain of wakes from t on -/
def itn (S : Int → Int) : Nat → Int → Int
  | 0, t => t
  | j + 1, t => nl S (itn S j t)
theorem itn_ge {S : Int → Int} (ok : okS S) (any : anyT S) {t : Int} (ht : 0 ≤ t) : ∀ j : Nat, t + j ≤ itn S j t := by
  intro j
  induction j with
  | zero => show t + 0 ≤ t; omega
  | succ j ih =>
    have := (nl_gt ok any (t := itn S j t) (by omega)).1
    rw [itn]; omega
theorem itn_mono {S : Int → Int} (ok : okS S) (any : anyT S) {t t' : Int} (ht : 0 ≤ t) (h : t ≤ t') : ∀ j : Nat, itn S j t ≤ itn S j t' := by
  intro j
  induction j with
  | zero => exact h
  | succ j ih =>
    have := itn_ge ok any ht j
    rw [itn, itn]
    exact nl_mono ok any (by omega) ih
theorem itn_per {S : Int → Int} (ok : okS S) (any : anyT S) {t H : Int} (hH : perH S H) (ht : 0 ≤ t) : ∀ j : Nat, itn S j (t + H) = itn S j t + H := by
  intro j
  induction j with
  | zero => rfl
  | succ j ih =>
    have := itn_ge ok any ht j
    rw [itn, itn, ih, nl_per ok any hH (by omega)]
theorem itn_add (S : Int → Int) (t : Int) (i : Nat) : ∀ j : Nat, itn S (i + j) t = itn S j (itn S i t) := by
  intro j
  induction j with
  | zero => rfl
  | succ j ih => rw [show i + (j + 1) = i + j + 1 by omega, itn, itn, ih]
/-- m wakes go round from p -/
def isCnt (S : Int → Int) (H p : Int) (m : Nat) : Prop := (∀ j : Nat, j < m → itn S j p < p + H) ∧ p + H ≤ itn S m p
theorem isCnt_one {S : Int → Int} {H p : Int} {m m' : Nat} (a : isCnt S H p m) (b : isCnt S H p m') : m = m' := by
  rcases Nat.lt_trichotomy m m' with q | q | q
  · have := b.1 m q; have := a.2; omega
  · exact q
  · have := a.1 m' q; have := b.2; omega
theorem isCnt_ex {S : Int → Int} (ok : okS S) (any : anyT S) {H p : Int} (hp : 0 ≤ p) (hH : 0 < H) : ∃ m : Nat, isCnt S H p m ∧ 0 < m ∧ (m : Int) ≤ H := by
  have key : ∀ d : Nat, (d : Int) ≤ H → (∀ j : Nat, j < d → itn S j p < p + H) ∨ ∃ m : Nat, m < d ∧ isCnt S H p m := by
    intro d
    induction d with
    | zero => intro _; exact Or.inl (fun j hj => by omega)
    | succ d ih =>
      intro hd
      rcases ih (by omega) with h | ⟨m, h1, h2⟩
      · by_cases c : itn S d p < p + H
        · exact Or.inl (fun j hj => by
            by_cases e : j = d
            · rw [e]; exact c
            · exact h j (by omega))
        · exact Or.inr ⟨d, by omega, h, by omega⟩
      · exact Or.inr ⟨m, by omega, h2⟩
  rcases key H.toNat (by omega) with h | ⟨m, h1, h2⟩
  · refine ⟨H.toNat, ⟨h, ?_⟩, by omega, by omega⟩
    have := itn_ge ok any hp H.toNat; omega
  · refine ⟨m, h2, ?_, by omega⟩
    by_cases e : m = 0
    · have := h2.2; rw [e] at this; change p + H ≤ p at this; omega
    · omega
/-- from any wake of a round on there are no more wakes -/
theorem isCnt_rot {S : Int → Int} (ok : okS S) (any : anyT S) {H p q : Int} {m m' i : Nat} (hH : perH S H) (hp : 0 ≤ p) (a : isCnt S H p m) (hq : q + H = itn S i p) (h0 : 0 ≤ q) (b : isCnt S H q m') : m' ≤ m := by
  have big : itn S i p + H ≤ itn S (m + i) p := by
    rw [itn_add, ← itn_per ok any hH hp]
    exact itn_mono ok any (by have := hH.1; omega) a.2 i
  have e : itn S m q + H = itn S (i + m) p := by
    rw [itn_add, ← hq, itn_per ok any hH h0]
  rcases Nat.lt_or_ge m m' with c | c
  · have := b.1 m c
    rw [show m + i = i + m by omega] at big
    omega
  · exact c
/-- THE ROUND: m wakes from p on -/
def roundS (S : Int → Int) (H p : Int) (m : Nat) : Prop := (0 ≤ p ∧ p < H) ∧ isCnt S H p m ∧ ∀ (q : Int) (m' : Nat), 0 ≤ q → q < H → isCnt S H q m' → m ≤ m' ∧ (q < p → m < m')
theorem roundS_one {S : Int → Int} {H p p' : Int} {m m' : Nat} (a : roundS S H p m) (b : roundS S H p' m') : p = p' ∧ m = m' := by
  have x := a.2.2 p' m' b.1.1 b.1.2 b.2.1
  have y := b.2.2 p m a.1.1 a.1.2 a.2.1
  have em : m = m' := by omega
  refine ⟨?_, em⟩
  rcases Int.lt_trichotomy p p' with q | q | q
  · have := y.2 q; omega
  · exact q
  · have := x.2 q; omega
/-- it is enough to look at the starts up to the least LATEST behind 0 -/
theorem roundS_of {S : Int → Int} (ok : okS S) (any : anyT S) {H p : Int} {m : Nat} (hH : perH S H) (hp : 0 ≤ p ∧ p < H) (hc : isCnt S H p m) (hpn : p ≤ nl S 0) (h : ∀ (q : Int) (m' : Nat), 0 ≤ q → q < H → q ≤ nl S 0 → isCnt S H q m' → m ≤ m' ∧ (q < p → m < m')) : roundS S H p m := by
  refine ⟨hp, hc, fun q m' q0 q1 hq => ?_⟩
  by_cases c : q ≤ nl S 0
  · exact h q m' q0 q1 c hq
  · -- the first wake behind H
    have ex : ∃ i : Nat, H < itn S i q ∧ itn S i q ≤ H + nl S 0 := by
      have key : ∀ d : Nat, (itn S d q ≤ H) ∨ ∃ i : Nat, H < itn S i q ∧ itn S i q ≤ H + nl S 0 := by
        intro d
        induction d with
        | zero => exact Or.inl (by show q ≤ H; omega)
        | succ d ih =>
          rcases ih with ih | ih
          · by_cases c2 : itn S (d + 1) q ≤ H
            · exact Or.inl c2
            · refine Or.inr ⟨d + 1, by omega, ?_⟩
              have g := itn_ge ok any q0 d
              have mo := nl_mono ok any (t := itn S d q) (t' := H) (by omega) ih
              have pe := nl_per ok any (t := 0) hH (by omega)
              rw [Int.zero_add] at pe
              rw [itn]; omega
          · exact Or.inr ih
      rcases key (H.toNat + 1) with k | k
      · have := itn_ge ok any q0 (H.toNat + 1); omega
      · exact k
    obtain ⟨i, i1, i2⟩ := ex
    obtain ⟨m2, hm2, -⟩ := isCnt_ex ok any (H := H) (p := itn S i q - H) (by omega) hH.1
    have le := isCnt_rot ok any hH q0 hq (show itn S i q - H + H = itn S i q by omega) (by omega) hm2
    have := h (itn S i q - H) m2 (by omega) (by omega) (by omega) hm2
    exact ⟨by omega, fun z => by omega⟩
