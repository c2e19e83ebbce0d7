/-! ===== the class reads: its contracts ===== -/
def tpO (h : AH) (n : Int) (B : Int → Int) : Prop := (0 ≤ n ∧ n ≤ 600) ∧ h 4 = B ∧ ∀ i, 0 ≤ i → i < n → -128 ≤ B i ∧ B i ≤ 127
def rdR (h : AH) (n : Int) (B : Int → Int) (r : R4) : Prop := h 2 1 = r.1 ∧ h 2 2 = r.2.1 ∧ isTk h 3 n B r.2.2.1
theorem fa_set {w : WS} {o : Int} (sA : shA w) (ho : o = 5 ∨ o = 13) : shSetup w o := by
  rcases ho with rfl | rfl
  · exact fa_setup5 sA
  · exact fa_setup13 sA
section
variable {w : WS} {h : AH} {n p o : Int} {B S N : Int → Int}
theorem isTk_f {h' : AH} (tk : isTk h 3 n B p) (e : h' 3 = h 3) : isTk h' 3 n B p := by
  unfold isTk
  rw [e]
  exact tk
theorem tpO_f {h' : AH} (tp : tpO h n B) (e : h' 4 = h 4) : tpO h' n B := ⟨tp.1, by rw [e]; exact tp.2.1, tp.2.2⟩
theorem isTk_r (tk : isTk h 3 n B p) : inR (h 3 4) ∧ (h 3 4 = 3 → inR (h 3 5)) ∧ (h 3 4 = 4 → inR (h 3 5)) := by
  obtain ⟨k1, k2, k3, k4, k5⟩ := tk
  have := tkT_r n p B
  refine ⟨by omega, fun e => ?_, fun e => ?_⟩
  · have := tk_wordR (n := n) (p := p) (B := B) (by omega); omega
  · have := tk_num (n := n) (p := p) (B := B) (by omega); omega
theorem c_adv (sA : shA w) (tp : tpO h n B) (tk : isTk h 3 n B p) (p0 : 0 ≤ p ∧ p ≤ n) : CV mX6_advance [vR 3] w h (fun h' => isTk h' 3 n B (tkE n B p) ∧ ∀ b, b ≠ 3 → h' b = h b) := by
  have a := tkQ_r (B := B) p0
  have b := tkE_r (B := B) p0
  exact c_X6_advance (fa_tape sA) tk.1 tp.1 tk.2.2.1 (by omega) tp.2.1 tp.2.2
theorem failH_f (h : AH) (y : Int) : failH h y 2 1 = y ∧ failH h y 2 2 = h 3 2 ∧ ∀ b, b ≠ 2 → failH h y b = h b := by
  refine ⟨?_, ?_, fun b hb => ?_⟩
  · rw [failH, st_slot _ _ _ _ (by decide), st_same]
  · rw [failH, st_same]
  · rw [failH, st_row _ _ _ hb, st_row _ _ _ hb]
theorem fail_rd (tk : isTk h 3 n B p) {y : Int} {h' : AH} (e : h' = failH h y) {q : Int} : rdR h' n B (y, tkQ n B p, p, q) ∧ ∀ b, b ≠ 2 → b ≠ 3 → h' b = h b := by
  subst e
  have f := failH_f h y
  exact ⟨⟨f.1, by rw [f.2.1]; exact tk.2.1, isTk_f tk (f.2.2 3 (by decide))⟩, fun b hb _ => f.2.2 b hb⟩
theorem c_X3_takeNumber {lo hi : Int} (sA : shA w) (tp : tpO h n B) (tk : isTk h 3 n B p) (p0 : 0 ≤ p ∧ p ≤ n) (hf : h 2 1 = 0) (hp : h 2 2 = -1) (hlo : inR lo) (hhi : inR hi) : CI mX3_takeNumber [vR 2, vI lo, vI hi] w h (fun x h' => x = (pNum n B lo hi p).2.2.2 ∧ rdR h' n B (pNum n B lo hi p) ∧ ∀ b, b ≠ 2 → b ≠ 3 → h' b = h b) := by
  refine e_X3_takeNumber (r_X3_takeNumber_0 sA ?_)
  obtain ⟨r1, r2, r3⟩ := isTk_r tk
  obtain ⟨k1, k2, k3, k4, k5⟩ := id tk
  refine ⟨by omega, fun _ => ⟨r1, fun c => ⟨r3 c, hlo, fun c2 h5 e5 => ?_, fun c2 => ⟨hhi, fun c3 => (c_adv sA tp tk p0).mono ?_, fun c3 h9 e9 => ?_⟩⟩, fun c h15 e15 => ?_⟩, fun c => absurd hf c⟩
  · have e : pNum n B lo hi p = (3, tkQ n B p, p, -1) := by rw [pNum, if_neg (by omega), if_pos (by omega)]
    rw [e]; exact ⟨rfl, fail_rd tk e5⟩
  · rintro h' ⟨q1, q2⟩
    have e : pNum n B lo hi p = (0, -1, tkE n B p, tkV n B p) := by rw [pNum, if_neg (by omega), if_neg (by omega)]
    rw [e]; exact ⟨k5, ⟨by rw [q2 2 (by decide)]; exact hf, by rw [q2 2 (by decide)]; exact hp, q1⟩, fun b _ hb => q2 b hb⟩
  · have e : pNum n B lo hi p = (3, tkQ n B p, p, -1) := by rw [pNum, if_neg (by omega), if_pos (by omega)]
    rw [e]; exact ⟨rfl, fail_rd tk e9⟩
  · have e : pNum n B lo hi p = (1, tkQ n B p, p, -1) := by rw [pNum, if_pos (by omega)]
    rw [e]; exact ⟨rfl, fail_rd tk e15⟩
/-- behind a fault nothing more is taken -/
theorem c_X3_takeNumberF {lo hi : Int} (sA : shA w) (hr : inR (h 2 1)) (hf : h 2 1 ≠ 0) : CI mX3_takeNumber [vR 2, vI lo, vI hi] w h (fun x h' => x = -1 ∧ h' = h) := by
  refine e_X3_takeNumber (r_X3_takeNumber_0 sA ⟨hr, fun c => absurd c hf, fun _ => ⟨rfl, rfl⟩⟩)
theorem c_X3_takeKind {c : Int} (sA : shA w) (ho : o = 5 ∨ o = 13) (tp : tpO h n B) (tk : isTk h 3 n B p) (p0 : 0 ≤ p ∧ p ≤ n) (hf : h 2 1 = 0) (hp : h 2 2 = -1) (hc : h o 4 = c) (c0 : 0 ≤ c ∧ c ≤ 8) (hN : ∀ k, 0 ≤ k → k < c → h (o + 1) k = N k ∧ inR (N k)) : CI mX3_takeKind [vR 2, vR o] w h (fun x h' => x = (pKnd n B N c (tkE n B p)).2.2.2 ∧ rdR h' n B (pKnd n B N c (tkE n B p)) ∧ ∀ b, b ≠ 2 → b ≠ 3 → h' b = h b) := by
  refine e_X3_takeKind (r_X3_takeKind_0 sA ((c_adv sA tp tk p0).mono ?_))
  rintro h1 ⟨tk1, f1⟩
  have a := tkQ_r (B := B) p0
  have b := tkE_r (B := B) p0
  obtain ⟨r1, r2, r3⟩ := isTk_r tk1
  obtain ⟨k1, k2, k3, k4, k5⟩ := id tk1
  refine ⟨r1, r2, fun c1 => ⟨(fa_set sA ho).1, ?_⟩, fun c1 h13 e13 => ?_⟩
  · have ef : fnd (h1 (o + 1)) (h1 3 5) (h1 o 4).toNat 0 = fnd N (tkV n B (tkE n B p)) c.toNat 0 := by
      rw [f1 (o + 1) (by omega), f1 o (by omega), hc, k5]
      exact fnd_eq _ _ (fun k q1 q2 => by rw [(hN k (by omega) (by omega)).1])
    have fr := fnd_r (nm := N) (v := tkV n B (tkE n B p)) c.toNat 0
    refine (c_X5_kindNamed (fa_set sA ho) (by rw [f1 o (by omega), hc]; exact c0) (fun i i0 i1 => ?_) (r2 c1.1)).mono ?_
    · rw [f1 o (by omega), hc] at i1
      rw [f1 (o + 1) (by omega), (hN i i0 i1).1]; exact (hN i i0 i1).2
    · rintro x h5 ⟨ex, rfl⟩
      rw [ef] at ex
      refine ⟨by omega, fun c2 => (c_adv sA (tpO_f tp (f1 4 (by decide))) tk1 (by omega)).mono ?_, fun c2 h9 e9 => ?_⟩
      · rintro h8 ⟨q1, q2⟩
        have e : pKnd n B N c (tkE n B p) = (0, -1, tkE n B (tkE n B p), fnd N (tkV n B (tkE n B p)) c.toNat 0) := by rw [pKnd, if_neg (fun z => z (by rw [nmA, ← k4, ← k5]; exact c1)), if_neg (by omega)]
        rw [e]
        exact ⟨ex, ⟨by rw [q2 2 (by decide), f1 2 (by decide)]; exact hf, by rw [q2 2 (by decide), f1 2 (by decide)]; exact hp, q1⟩, fun b _ hb => (q2 b hb).trans (f1 b hb)⟩
      · have e : pKnd n B N c (tkE n B p) = (2, tkQ n B (tkE n B p), tkE n B p, -1) := by rw [pKnd, if_neg (fun z => z (by rw [nmA, ← k4, ← k5]; exact c1)), if_pos (by omega)]
        rw [e]
        have g := fail_rd (q := -1) tk1 e9
        exact ⟨rfl, g.1, fun b hb1 hb2 => (g.2 b hb1 hb2).trans (f1 b hb2)⟩
  · have e : pKnd n B N c (tkE n B p) = (1, tkQ n B (tkE n B p), tkE n B p, -1) := by rw [pKnd, if_pos (fun z => c1 (by rw [nmA, ← k4, ← k5] at z; exact z))]
    rw [e]
    have g := fail_rd (q := -1) tk1 e13
    exact ⟨rfl, g.1, fun b hb1 hb2 => (g.2 b hb1 hb2).trans (f1 b hb2)⟩
/-- what a line leaves -/
def lnR (h h' : AH) (o n : Int) (B : Int → Int) (r : R5) : Prop := h' 2 1 = r.1 ∧ h' 2 2 = r.2.1 ∧ (r.1 = 0 → isTk h' 3 n B r.2.2.1 ∧ isS h' o r.2.2.2.1 ∧ (∀ k, 0 ≤ k → k < r.2.2.2.1 96 → h' (o + 1) k = r.2.2.2.2 k)) ∧ (∀ b, b ≠ 2 → b ≠ 3 → (b < o ∨ o + 7 < b) → h' b = h b) ∧ h' 3 1 = n
/-- before a line -/
def lnP (h : AH) (o n : Int) (B S N : Int → Int) (p : Int) : Prop := (o = 5 ∨ o = 13) ∧ tpO h n B ∧ isTk h 3 n B p ∧ (0 ≤ p ∧ p ≤ n) ∧ (h 2 1 = 0 ∧ h 2 2 = -1) ∧ isS h o S ∧ (∀ k, 0 ≤ k → k < S 96 → h (o + 1) k = N k) ∧ okS S ∧ okN S N
theorem okN_r (oN : okN S N) {k : Int} (h0 : 0 ≤ k) (h1 : k < S 96) : inR (N k) := by
  have := dg_r 6 _ (oN k h0 h1)
  have e : (32 : Int) ^ 6 = 1073741824 := by decide
  omega
theorem c_X3_settingLine {a i lo hi : Int} (sA : shA w) (P : lnP h o n B S N p) (ha : (a = 408362632 ∧ i = 98 ∧ lo = 1 ∧ hi = 300) ∨ (a = 17376357 ∧ i = 99 ∧ lo = 1 ∧ hi = 99) ∨ (a = 643129 ∧ i = 100 ∧ lo = 0 ∧ hi = 20)) : CI mX3_settingLine [vR 2, vR o, vI a] w h (fun x h' => x = (if (pSet n B S N i lo hi (tkE n B p)).1 = 0 then 1 else 0) ∧ lnR h h' o n B (pSet n B S N i lo hi (tkE n B p))) := by
  obtain ⟨ho, tp, tk, p0, ⟨hf, hp⟩, hS, hN, ok, oN⟩ := P
  have a0 := tkQ_r (B := B) p0
  have b0 := tkE_r (B := B) p0
  refine e_X3_settingLine (r_X3_settingLine_0 sA ((c_adv sA tp tk p0).mono ?_))
  rintro h1 ⟨tk1, f1⟩
  have key : ∀ (j : Int) (hj : (i = 98 ∧ j = 9) ∨ (i = 99 ∧ j = 10) ∨ (i = 100 ∧ j = 11)) (hlo : inR lo) (hhi : inR hi), CI mX3_takeNumber [vR 2, vI lo, vI hi] w h1 (fun x4 h3 => (wt w o = 15 ∧ (inR ((st h3 o j x4) 2 1) ∧ ((¬ ((st h3 o j x4) 2 1) = 0 → (0 = (if (pSet n B S N i lo hi (tkE n B p)).1 = 0 then (1 : Int) else 0) ∧ lnR h (st h3 o j x4) o n B (pSet n B S N i lo hi (tkE n B p)))) ∧ (((st h3 o j x4) 2 1) = 0 → (1 = (if (pSet n B S N i lo hi (tkE n B p)).1 = 0 then (1 : Int) else 0) ∧ lnR h (st h3 o j x4) o n B (pSet n B S N i lo hi (tkE n B p)))))))) := by
    intro j hj hlo hhi
    refine (c_X3_takeNumber sA (tpO_f tp (f1 4 (by decide))) tk1 (by omega) (by rw [f1 2 (by decide)]; exact hf) (by rw [f1 2 (by decide)]; exact hp) hlo hhi).mono ?_
    rintro x h3 ⟨ex, ⟨q1, q2, q3⟩, q4⟩
    have g := (pNum_g (B := B) (p := tkE n B p) (n := n) lo hi (by omega)).1
    have s2 : st h3 o j x 2 = h3 2 := st_row _ _ _ (by omega)
    have s3 : st h3 o j x 3 = h3 3 := st_row _ _ _ (by omega)
    have fr : ∀ b, b ≠ 2 → b ≠ 3 → (b < o ∨ o + 7 < b) → st h3 o j x b = h b := fun b b1 b2 b3 => by rw [st_row _ _ _ (by omega), q4 b b1 b2, f1 b b2]
    have fo : ∀ b, b ≠ 2 → b ≠ 3 → h3 b = h b := fun b b1 b2 => (q4 b b1 b2).trans (f1 b b2)
    have e1 : (pSet n B S N i lo hi (tkE n B p)).1 = (pNum n B lo hi (tkE n B p)).1 := rfl
    have R : lnR h (st h3 o j x) o n B (pSet n B S N i lo hi (tkE n B p)) := by
      refine ⟨by rw [s2, q1]; rfl, by rw [s2, q2]; rfl, fun _ => ⟨isTk_f q3 s3, ?_, fun k k0 k1 => ?_⟩, fr, by rw [s3]; exact q3.1⟩
      · show isS (st h3 o j x) o (up S i (pNum n B lo hi (tkE n B p)).2.2.2)
        rw [← ex]
        have hS3 : isS h3 o S := isS_frame hS (fun b b1 b2 => fo b (by omega) (by omega))
        obtain ⟨y1, y2, y3, y4, y5, y6, y7⟩ := hS3
        have us : ∀ z, z < 98 → up S i x z = S z := fun z hz => up_o _ _ (by omega)
        have so : ∀ b z, b ≠ o → st h3 o j x b z = h3 b z := fun b z hb => st_cell _ _ _ _ hb
        have k1 := ok.1
        have k2 := ok.2.1
        refine ⟨?_, ?_, ?_, ?_, ?_, fun k k0 kk => ?_, fun t t0 tt => ?_⟩
        · rw [us _ (by omega), st_slot _ _ _ _ (by omega)]; exact y1
        · rw [us _ (by omega), st_slot _ _ _ _ (by omega)]; exact y2
        · by_cases q : i = 98
          · rw [q, up_s, show j = 9 by omega, st_same]
          · rw [up_o _ _ (by omega), st_slot _ _ _ _ (by omega)]; exact y3
        · by_cases q : i = 99
          · rw [q, up_s, show j = 10 by omega, st_same]
          · rw [up_o _ _ (by omega), st_slot _ _ _ _ (by omega)]; exact y4
        · by_cases q : i = 100
          · rw [q, up_s, show j = 11 by omega, st_same]
          · rw [up_o _ _ (by omega), st_slot _ _ _ _ (by omega)]; exact y5
        · rw [us _ (by omega)] at kk
          rw [us _ (by omega), us _ (by omega), us _ (by omega), so _ _ (by omega), so _ _ (by omega), so _ _ (by omega)]; exact y6 k k0 kk
        · rw [us _ (by omega)] at tt
          rw [us _ (by omega), us _ (by omega), us _ (by omega), so _ _ (by omega), so _ _ (by omega), so _ _ (by omega)]; exact y7 t t0 tt
      · have e96 : (pSet n B S N i lo hi (tkE n B p)).2.2.2.1 96 = S 96 := up_o _ _ (by omega)
        rw [e96] at k1
        rw [st_cell _ _ _ _ (by omega), fo (o + 1) (by omega) (by omega)]
        exact hN k k0 k1
    refine ⟨(fa_set sA ho).1, by rw [s2, q1]; omega, fun c => ⟨?_, R⟩, fun c => ⟨?_, R⟩⟩
    · rw [s2, q1] at c
      rw [e1, if_neg c]
    · rw [s2, q1] at c
      rw [e1, if_pos c]
  refine ⟨by omega, fun c => ⟨fun c2 => ?_, fun c2 => ?_⟩, fun c => ?_⟩
  · obtain ⟨-, rfl, rfl, rfl⟩ : a = 643129 ∧ i = 100 ∧ lo = 0 ∧ hi = 20 := by omega
    exact key 11 (by omega) (by decide) (by decide)
  · obtain ⟨-, rfl, rfl, rfl⟩ : a = 17376357 ∧ i = 99 ∧ lo = 1 ∧ hi = 99 := by omega
    exact key 10 (by omega) (by decide) (by decide)
  · obtain ⟨-, rfl, rfl, rfl⟩ : a = 408362632 ∧ i = 98 ∧ lo = 1 ∧ hi = 300 := by omega
    exact key 9 (by omega) (by decide) (by decide)
end
