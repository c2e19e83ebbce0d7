/-! by hand -/
def mnF (L : Int → Int) (a : Int) : Nat → Int
  | 0 => -1
  | m + 1 => if mnF L a m = -1 ∨ L (a + m) < mnF L a m then L (a + m) else mnF L a m
theorem mnF_lst {L : Int → Int} {a : Int} : ∀ m : Nat, (∀ k, a ≤ k → k < a + m → 0 ≤ L k) → lst L (fun k => a ≤ k ∧ k < a + m) (mnF L a m) := by
  intro m
  induction m with
  | zero => intro _; exact Or.inl ⟨rfl, fun k q => by omega⟩
  | succ m ih =>
    intro h
    have := lst_more (i := a + m) (ih (fun k k0 k1 => h k k0 (by omega))) (fun k q => h k q.1 (by omega))
    exact lst_iff (fun k => ⟨fun q => by omega, fun q => by omega⟩) this
abbrev wantF (F L W : Int → Int) (r u p a b : Int) : Prop := a < b ∧ (r = 0 ∨ mnF L a (b - a).toNat = u ∨ (r = 2 ∧ p < wsum F W (u + 1) (b - a).toNat a))
theorem mnF_iff {n a b u : Int} {F L W : Int → Int} (ok : okC n F L W) (h0 : 0 ≤ a) (hab : a ≤ b) (hb : b ≤ n) : lst L (fun k => a ≤ k ∧ k < b) u ↔ mnF L a (b - a).toNat = u := by
  have hL : ∀ k, a ≤ k ∧ k < b → 0 ≤ L k := fun k q => by have := (ok.2.1 k (by omega) (by omega)).1; omega
  have e : a + ((b - a).toNat : Int) = b := by omega
  have q := mnF_lst (L := L) (a := a) (b - a).toNat (fun k k0 k1 => hL k ⟨k0, by omega⟩)
  rw [e] at q
  exact ⟨fun z => lst_one hL q z, fun z => z ▸ q⟩
theorem want_F {n a b r u p : Int} {F L W : Int → Int} (ok : okC n F L W) (h0 : 0 ≤ a) (hab : a ≤ b) (hb : b ≤ n) : wantS F L W r u p a b ↔ wantF F L W r u p a b := by
  unfold wantS wantF
  rw [mnF_iff ok h0 hab hb]
abbrev HS : Type := (Int → Int) × (Int → Int) × (Int → Int) × (Int → Int) × (Int → Int)
def okHq (S : Int → Int) (q : HS) : Prop := okH S q.1 q.2.1 q.2.2.1 q.2.2.2.1 q.2.2.2.2
def invQ (w : WS) (h : AH) (S : Int → Int) (q : HS) : Prop := invX w h S q.1 q.2.1 q.2.2.1 q.2.2.2.1 q.2.2.2.2
def wakeG (g : Int → Int) : Int → Int := up (up (up g 5 (g 0)) 6 (g 6 + 1)) 8 (g 9)
def wakeHS (q : HS) : HS := (wakeG q.1, q.2.1, q.2.2.1, q.2.2.2.1, ap (q.1 5) q.2.2.2.2 (fun _ => q.1 9))
/-- the next tick, with its calls -/
def comeHS (S : Int → Int) (q : HS) : HS := if eU S (q.1 9 + 1) = eU S (q.1 9) then (up q.1 9 (q.1 9 + 1), q.2) else (up (up q.1 9 (q.1 9 + 1)) 0 (q.1 0 + (eU S (q.1 9 + 1) - eU S (q.1 9))), ap (q.1 0) q.2.1 (fun _ => q.1 9 + 1), ap (q.1 0) q.2.2.1 (fun k => cL S (k - q.1 0 + eU S (q.1 9))), ap (q.1 0) q.2.2.2.1 (fun k => cW S (k - q.1 0 + eU S (q.1 9))), q.2.2.2.2)
abbrev wantQ (S : Int → Int) (q : HS) : Prop := wantF q.2.1 q.2.2.1 q.2.2.2.1 (q.1 10) (q.1 9) (S 99) (q.1 5) (q.1 0)
def stepHS (S : Int → Int) (q : HS) : HS := comeHS S (if wantQ S q then wakeHS q else q)
def wokeHS (S : Int → Int) (q : HS) : Int := if wantQ S q then 1 else 0
def goHS (S : Int → Int) : Nat → HS → HS × Int
  | 0, q => (q, 0)
  | d + 1, q => if S 98 < q.1 9 then (q, 0) else ((goHS S d (stepHS S q)).1, (goHS S d (stepHS S q)).2 + wokeHS S q)
def ringHS (S : Int → Int) (k : Int) (q : HS) : HS := (up (up (up q.1 0 (q.1 0 + 1)) 4 (q.1 4 + 1)) 5 (if q.1 8 = q.1 9 then q.1 0 + 1 else q.1 5), up q.2.1 (q.1 0) (q.1 9), up q.2.2.1 (q.1 0) (min (q.1 9 + slk S k) (S 98)), up q.2.2.2.1 (q.1 0) (wgt S k), up q.2.2.2.2 (q.1 0) (q.1 9))
def ruleHS (r : Int) (q : HS) : HS := (up q.1 10 r, q.2)
section
variable {S g F L W At : Int → Int}
theorem wakeG_at (g : Int → Int) : wakeG g 0 = g 0 ∧ wakeG g 4 = g 4 ∧ wakeG g 5 = g 0 ∧ wakeG g 6 = g 6 + 1 ∧ wakeG g 8 = g 9 ∧ wakeG g 9 = g 9 ∧ wakeG g 10 = g 10 := by
  refine ⟨?_, ?_, ?_, ?_, ?_, ?_, ?_⟩ <;> rfl
theorem wake_ok {q : HS} (a : okHq S q) (h : q.1 5 < q.1 0) : okHq S (wakeHS q) := by
  obtain ⟨g, F, L, W, At⟩ := q
  obtain ⟨k1, k2, k3, k4, k5, k6, k7, k8, k9, k10, k11, k12⟩ := a
  dsimp only at *
  obtain ⟨e0, e4, e5, e6, e8, e9, e10⟩ := wakeG_at g
  show okH S (wakeG g) F L W (ap (g 5) At (fun _ => g 9))
  unfold okH
  rw [e0, e4, e5, e6, e8, e9, e10]
  refine ⟨k1, k2, k3, k4, by omega, by omega, by omega, k8, k9, fun _ => rfl, fun k _ _ => by omega, fun k h0 h1 => ?_⟩
  by_cases c : k < g 5
  · rw [ap_lt c]; exact k12 k h0 c
  · rw [ap_ge c]; exact ⟨(k2 k h0 h1).2, Int.le_refl _⟩
theorem come_ok {q : HS} (iN : okS S ∧ cN S ≤ 200) (a : okHq S q) (hu : q.1 9 ≤ S 98) (hl : ∀ k, q.1 5 ≤ k → k < q.1 0 → q.1 9 + 1 ≤ q.2.2.1 k) : okHq S (comeHS S q) := by
  obtain ⟨g, F, L, W, At⟩ := q
  obtain ⟨k1, k2, k3, k4, k5, k6, k7, k8, k9, k10, k11, k12⟩ := a
  dsimp only at *
  have r0 := eU_r S (g 9)
  have r1 := eU_r S (g 9 + 1)
  obtain ⟨okc, hL⟩ := inv_ok iN
  have n2 := iN.2
  unfold comeHS
  dsimp only
  split
  · next c =>
    have ui : ∀ i, i ≠ 9 → up g 9 (g 9 + 1) i = g i := fun i hi => up_o _ _ hi
    have u9 : up g 9 (g 9 + 1) 9 = g 9 + 1 := up_s _ _ _
    show okH S (up g 9 (g 9 + 1)) F L W At
    unfold okH
    rw [u9, ui 0 (by decide), ui 4 (by decide), ui 5 (by decide), ui 6 (by decide), ui 8 (by decide), ui 10 (by decide)]
    exact ⟨k1, fun k h0 h1 => ⟨(k2 k h0 h1).1, by have := (k2 k h0 h1).2; omega⟩, by omega, k4, k5, k6, by omega, by omega, k9, fun e => by omega, hl, fun k h0 h1 => ⟨(k12 k h0 h1).1, by have := (k12 k h0 h1).2; omega⟩⟩
  · next c =>
    have mono : eU S (g 9) ≤ eU S (g 9 + 1) := by
      have := cls_len S (a := (min (g 9 + 1) (S 98 + 1)).toNat) (b := (min (g 9 + 1 + 1) (S 98 + 1)).toNat) (by omega)
      unfold eU
      omega
    have ui : ∀ i, i ≠ 9 → i ≠ 0 → up (up g 9 (g 9 + 1)) 0 (g 0 + (eU S (g 9 + 1) - eU S (g 9))) i = g i := fun i hi h0 => by rw [up_o _ _ h0, up_o _ _ hi]
    have u9 : up (up g 9 (g 9 + 1)) 0 (g 0 + (eU S (g 9 + 1) - eU S (g 9))) 9 = g 9 + 1 := by rw [up_o _ _ (by decide), up_s]
    have u0 : up (up g 9 (g 9 + 1)) 0 (g 0 + (eU S (g 9 + 1) - eU S (g 9))) 0 = g 0 + (eU S (g 9 + 1) - eU S (g 9)) := up_s _ _ _
    show okH S (up (up g 9 (g 9 + 1)) 0 (g 0 + (eU S (g 9 + 1) - eU S (g 9)))) (ap (g 0) F (fun _ => g 9 + 1)) (ap (g 0) L (fun k => cL S (k - g 0 + eU S (g 9)))) (ap (g 0) W (fun k => cW S (k - g 0 + eU S (g 9)))) At
    have new : ∀ k, ¬ k < g 0 → k < g 0 + (eU S (g 9 + 1) - eU S (g 9)) → cF S (k - g 0 + eU S (g 9)) = g 9 + 1 ∧ (0 ≤ k - g 0 + eU S (g 9) ∧ k - g 0 + eU S (g 9) < cN S) := fun k h0 h1 => by
      have hb : 0 ≤ k - g 0 + eU S (g 9) ∧ k - g 0 + eU S (g 9) < cN S := by omega
      have a1 := (eU_iff iN.1 (u := g 9 + 1) (by omega) hb.1 hb.2).mp (by omega)
      have a2 : ¬ cF S (k - g 0 + eU S (g 9)) ≤ g 9 := fun z => by
        have := (eU_iff iN.1 (u := g 9) (by omega) hb.1 hb.2).mpr z
        omega
      exact ⟨by omega, hb⟩
    unfold okH
    rw [u9, u0, ui 4 (by decide) (by decide), ui 5 (by decide) (by decide), ui 6 (by decide) (by decide), ui 8 (by decide) (by decide), ui 10 (by decide) (by decide)]
    have one : ∀ k, 0 ≤ k → k < g 0 + (eU S (g 9 + 1) - eU S (g 9)) → ((0 ≤ ap (g 0) F (fun _ => g 9 + 1) k ∧ ap (g 0) F (fun _ => g 9 + 1) k ≤ ap (g 0) L (fun k => cL S (k - g 0 + eU S (g 9))) k ∧ ap (g 0) L (fun k => cL S (k - g 0 + eU S (g 9))) k ≤ 300 ∧ ap (g 0) L (fun k => cL S (k - g 0 + eU S (g 9))) k ≤ ap (g 0) F (fun _ => g 9 + 1) k + 99) ∧ (0 ≤ ap (g 0) W (fun k => cW S (k - g 0 + eU S (g 9))) k ∧ ap (g 0) W (fun k => cW S (k - g 0 + eU S (g 9))) k ≤ 9)) ∧ ap (g 0) L (fun k => cL S (k - g 0 + eU S (g 9))) k ≤ S 98 ∧ ap (g 0) F (fun _ => g 9 + 1) k ≤ g 9 + 1 := by
      intro k h0 h1
      by_cases c : k < g 0
      · rw [ap_lt c, ap_lt c, ap_lt c]
        exact ⟨k1.2.1 k h0 c, (k2 k h0 c).1, by have := (k2 k h0 c).2; omega⟩
      · obtain ⟨f, b⟩ := new k c h1
        rw [ap_ge c, ap_ge c, ap_ge c]
        have o := okc.2.1 _ b.1 b.2
        have l := hL _ b.1 b.2
        rw [f] at o
        exact ⟨o, l, Int.le_refl _⟩
    refine ⟨⟨by omega, fun k h0 h1 => (one k h0 h1).1, fun j k j0 jk h1 => ?_⟩, fun k h0 h1 => (one k h0 h1).2, by omega, k4, by omega, k6, by omega, by omega, k9, fun e => by omega, fun k h0 h1 => ?_, fun k h0 h1 => ?_⟩
    · by_cases c : k < g 0
      · rw [ap_lt c, ap_lt (show j < g 0 by omega)]; exact k1.2.2 j k j0 jk c
      · rw [ap_ge (k := k) c]
        exact (one j j0 (by omega)).2.2
    · by_cases c : k < g 0
      · rw [ap_lt c]; exact hl k h0 c
      · have o := (one k (by omega) h1).1.1.2.1
        rw [ap_ge c] at o
        exact o
    · rw [ap_lt (show k < g 0 by omega)]
      exact ⟨(k12 k h0 h1).1, by have := (k12 k h0 h1).2; omega⟩
/-- behind the rule nothing that is open is due -/
theorem step_due {q : HS} (a : okHq S q) : ∀ k, (if wantQ S q then wakeHS q else q).1 5 ≤ k → k < (if wantQ S q then wakeHS q else q).1 0 → (if wantQ S q then wakeHS q else q).1 9 + 1 ≤ (if wantQ S q then wakeHS q else q).2.2.1 k := by
  obtain ⟨g, F, L, W, At⟩ := q
  obtain ⟨k1, k2, k3, k4, k5, k6, k7, k8, k9, k10, k11, k12⟩ := a
  dsimp only at *
  intro k h0 h1
  split at h0
  · next c =>
    rw [if_pos c] at h1
    exact absurd h1 (Int.not_lt.mpr h0)
  · next c =>
    rw [if_neg c] at h1 ⊢
    dsimp only at h0 h1 ⊢
    have hm := k11 k h0 h1
    have nl : ¬ mnF L (g 5) (g 0 - g 5).toNat = g 9 := fun z => c ⟨by dsimp only; omega, Or.inr (Or.inl z)⟩
    have hl := (mnF_iff (u := mnF L (g 5) (g 0 - g 5).toNat) k1 k5.1 k5.2 (Int.le_refl _)).mpr rfl
    rcases hl with ⟨-, hl⟩ | ⟨⟨j, j1, j2⟩, hl⟩
    · exact absurd ⟨h0, h1⟩ (hl k)
    · have a1 := hl k ⟨h0, h1⟩
      have a2 := k11 j j1.1 j1.2
      omega
theorem want_lt {q : HS} (c : wantQ S q) : q.1 5 < q.1 0 := c.1
theorem step_ok {q : HS} (iN : okS S ∧ cN S ≤ 200) (a : okHq S q) (hu : q.1 9 ≤ S 98) : okHq S (stepHS S q) := by
  unfold stepHS
  refine come_ok iN ?_ ?_ (step_due a)
  · split
    · next c => exact wake_ok a (want_lt c)
    · exact a
  · split
    · exact hu
    · exact hu
theorem rule_ok {q : HS} {r : Int} (a : okHq S q) (hr : 0 ≤ r ∧ r ≤ 2) : okHq S (ruleHS r q) := by
  obtain ⟨g, F, L, W, At⟩ := q
  obtain ⟨k1, k2, k3, k4, k5, k6, k7, k8, k9, k10, k11, k12⟩ := a
  dsimp only at *
  have ui : ∀ i, i ≠ 10 → up g 10 r i = g i := fun i hi => up_o _ _ hi
  show okH S (up g 10 r) F L W At
  unfold okH
  rw [ui 0 (by decide), ui 4 (by decide), ui 5 (by decide), ui 6 (by decide), ui 8 (by decide), ui 9 (by decide), up_s]
  exact ⟨k1, k2, k3, k4, k5, k6, k7, k8, hr, k10, k11, k12⟩
theorem ringG_at (q : HS) (S : Int → Int) (k : Int) : (ringHS S k q).1 0 = q.1 0 + 1 ∧ (ringHS S k q).1 4 = q.1 4 + 1 ∧ (ringHS S k q).1 5 = (if q.1 8 = q.1 9 then q.1 0 + 1 else q.1 5) ∧ (ringHS S k q).1 6 = q.1 6 ∧ (ringHS S k q).1 8 = q.1 8 ∧ (ringHS S k q).1 9 = q.1 9 ∧ (ringHS S k q).1 10 = q.1 10 := by
  refine ⟨?_, ?_, ?_, ?_, ?_, ?_, ?_⟩ <;> rfl
theorem ring_ok {q : HS} {k : Int} (iN : okS S ∧ cN S ≤ 200) (a : okHq S q) (hk : 0 ≤ k ∧ k < S 96) (hu : q.1 9 ≤ S 98) (hr : q.1 4 < 100) : okHq S (ringHS S k q) := by
  obtain ⟨e0, e4, e5, e6, e8, e9, e10⟩ := ringG_at q S k
  obtain ⟨k1, k2, k3, k4, k5, k6, k7, k8, k9, k10, k11, k12⟩ := id a
  have sl := slk_r iN.1 hk.1 hk.2
  have wg := wgt_r iN.1 hk.1 hk.2
  have r0 := eU_r S (q.1 9)
  have n2 := iN.2
  have l3 := iN.1.2.2.1
  unfold okHq okH
  rw [e0, e4, e5, e6, e8, e9, e10]
  have fF : ∀ j, (ringHS S k q).2.1 j = if j = q.1 0 then q.1 9 else q.2.1 j := fun j => rfl
  have fL : ∀ j, (ringHS S k q).2.2.1 j = if j = q.1 0 then min (q.1 9 + slk S k) (S 98) else q.2.2.1 j := fun j => rfl
  have fW : ∀ j, (ringHS S k q).2.2.2.1 j = if j = q.1 0 then wgt S k else q.2.2.2.1 j := fun j => rfl
  have fA : ∀ j, (ringHS S k q).2.2.2.2 j = if j = q.1 0 then q.1 9 else q.2.2.2.2 j := fun j => rfl
  refine ⟨⟨by omega, fun j h0 h1 => ?_, fun i j i0 ij h1 => ?_⟩, fun j h0 h1 => ?_, by omega, by omega, ?_, ?_, k7, k8, k9, fun e => if_pos e, fun j h0 h1 => ?_, fun j h0 h1 => ?_⟩
  · rw [fF, fL, fW]
    by_cases c : j = q.1 0
    · rw [if_pos c, if_pos c, if_pos c]; omega
    · rw [if_neg c, if_neg c, if_neg c]; exact k1.2.1 j h0 (by omega)
  · rw [fF, fF]
    by_cases c : j = q.1 0
    · rw [if_pos c]
      by_cases d : i = q.1 0
      · rw [if_pos d]; exact Int.le_refl _
      · rw [if_neg d]; exact (k2 i i0 (by omega)).2
    · rw [if_neg c, if_neg (show ¬ i = q.1 0 by omega)]; exact k1.2.2 i j i0 ij (by omega)
  · rw [fF, fL]
    by_cases c : j = q.1 0
    · rw [if_pos c, if_pos c]; omega
    · rw [if_neg c, if_neg c]; exact k2 j h0 (by omega)
  · split <;> omega
  · split <;> omega
  · rw [fL]
    by_cases c : j = q.1 0
    · rw [if_pos c]; omega
    · rw [if_neg c]
      by_cases d : q.1 8 = q.1 9
      · rw [if_pos d] at h0; omega
      · rw [if_neg d] at h0; exact k11 j h0 (by omega)
  · rw [fF, fA]
    by_cases c : j = q.1 0
    · rw [if_pos c, if_pos c]; omega
    · rw [if_neg c, if_neg c]
      refine k12 j h0 ?_
      by_cases d : q.1 8 = q.1 9
      · rw [if_pos d] at h1; have := k10 d; omega
      · rw [if_neg d] at h1; exact h1
theorem wAt_cg {F' W' At' : Int → Int} : ∀ n : Nat, (∀ k : Nat, k < n → F' k = F k ∧ W' k = W k ∧ At' k = At k) → wAt F' W' At' n = wAt F W At n := by
  intro n
  induction n with
  | zero => intro _; rfl
  | succ n ih =>
    intro h
    obtain ⟨e1, e2, e3⟩ := h n (by omega)
    rw [wAt, wAt, ih (fun k hk => h k (by omega)), e1, e2, e3]
theorem wAt_wake {u : Int} (a : Nat) : ∀ d : Nat, wAt F W (ap a At (fun _ => u)) (a + d) = wAt F W At a + wsum F W u d a := by
  intro d
  induction d with
  | zero =>
    rw [wsum, Int.add_zero]
    exact wAt_cg _ (fun k hk => ⟨rfl, rfl, ap_lt (by omega)⟩)
  | succ d ih =>
    rw [show a + (d + 1) = a + d + 1 by omega, wAt, ih, wsum_app, ap_ge (by omega), show ((a + d : Nat) : Int) = (a : Int) + d by omega]
    omega
end
