section
variable {w : WS} {h : AH} {t : Int}
theorem skp_r (n : Int) (B : Int → Int) : ∀ (d : Nat) (p : Int), p ≤ skp n B d p ∧ skp n B d p ≤ p + d := by
  intro d
  induction d with
  | zero => intro p; rw [skp]; omega
  | succ d ih =>
    intro p
    rw [skp]
    split
    · have := ih (p + 1); omega
    · omega
theorem rnS_r (n : Int) (B : Int → Int) (c : Int) : ∀ (d : Nat) (p : Int), p ≤ rnS n B c d p ∧ rnS n B c d p ≤ p + d := by
  intro d
  induction d with
  | zero => intro p; rw [rnS]; omega
  | succ d ih =>
    intro p
    rw [rnS]
    split
    · have := ih (p + 1); omega
    · omega
theorem srC_r (c : Int) : 1 ≤ srC c ∧ srC c ≤ 5 := by
  rw [srC]; repeat' split
  all_goals omega
theorem srt_r (n : Int) (B : Int → Int) (p : Int) : 0 ≤ srt n B p ∧ srt n B p ≤ 5 := by
  have := srC_r (B p)
  rw [srt]; split <;> omega
theorem skp_no (n : Int) (B : Int → Int) : ∀ (d : Nat) (p : Int), n ≤ p + d → srt n B (skp n B d p) ≠ 2 := by
  intro d
  induction d with
  | zero => intro p hp; rw [skp, srt, if_pos (by omega)]; decide
  | succ d ih =>
    intro p hp
    rw [skp]
    split
    · exact ih (p + 1) (by omega)
    · assumption
/-- what a tape holds behind a token -/
def isTk (h : AH) (t n : Int) (B : Int → Int) (p : Int) : Prop := h t 1 = n ∧ h t 2 = tkQ n B p ∧ h t 3 = tkE n B p ∧ h t 4 = tkT n B p ∧ h t 5 = tkV n B p
theorem adv_run {n q c m z E : Int} {B : Int → Int} (s : shTape w t) (n0 : 0 ≤ n ∧ n ≤ 600) (hB : ∀ i, 0 ≤ i → i < n → -128 ≤ B i ∧ B i ≤ 127) (hc : (c = 3 ∧ m = 32 ∧ z = 96) ∨ (c = 4 ∧ m = 10 ∧ z = 48)) (q0 : 0 ≤ q) (h0 : AH) {Q : AH → Prop}
    (fin : ∀ h1 : AH, h1 t 1 = n → h1 t 2 = q → h1 t 3 = E → h1 t 4 = (if (c = 3 ∧ 6 < E - q) ∨ (c = 4 ∧ 3 < E - q) then 1 else c) → h1 t 5 = vlS B m z q (E - q).toNat → (∀ b, b ≠ t → h1 b = h0 b) → Q h1) (eB : h0 (t + 1) = B) :
    ∀ (d j : Nat) (h1 : AH), q + j + d = n → h1 t 1 = n → h1 t 2 = q → h1 t 3 = q + j → h1 t 4 = c → h1 t 5 = vlS B m z q j → rnS n B c d (q + j) = E → (∀ b, b ≠ t → h1 b = h0 b) → XV mX6_advance 77 [some (vR t), none] [] w h1 Q := by
  obtain ⟨s0, f0, t1, l1⟩ := id s
  have close : ∀ (j : Nat) (h1 : AH), q + j ≤ n → h1 t 1 = n → h1 t 2 = q → h1 t 3 = q + j → h1 t 4 = c → h1 t 5 = vlS B m z q j → q + j = E → (∀ b, b ≠ t → h1 b = h0 b) → ((¬ c = 3 → (inR (q + j - q) ∧ ((q + j - q ≤ 3 → Q h1) ∧ (¬ q + j - q ≤ 3 → ∀ h6, h6 = st h1 t 4 1 → Q h6)))) ∧ (c = 3 → (inR (q + j - q) ∧ ((q + j - q ≤ 6 → Q h1) ∧ (¬ q + j - q ≤ 6 → ∀ h6, h6 = st h1 t 4 1 → Q h6))))) := by
    intro j h1 hj e1 e2 e3 e4 e5 eE hf
    have ej : (E - q).toNat = j := by omega
    have yes : ¬ ((c = 3 ∧ 6 < E - q) ∨ (c = 4 ∧ 3 < E - q)) → Q h1 := fun a => fin h1 e1 e2 (by omega) (by rw [if_neg a]; exact e4) (by rw [ej]; exact e5) hf
    have no : ((c = 3 ∧ 6 < E - q) ∨ (c = 4 ∧ 3 < E - q)) → ∀ h6, h6 = st h1 t 4 1 → Q h6 := fun a h6 e6 => fin h6 (by rw [e6, st_slot _ _ _ _ (by decide)]; exact e1) (by rw [e6, st_slot _ _ _ _ (by decide)]; exact e2) (by rw [e6, st_slot _ _ _ _ (by decide)]; omega) (by rw [if_pos a, e6, st_same]) (by rw [ej, e6, st_slot _ _ _ _ (by decide)]; exact e5) (fun b hb => by rw [e6, st_row _ _ _ hb]; exact hf b hb)
    exact ⟨fun a => ⟨by omega, fun a2 => yes (by omega), fun a2 => no (by omega)⟩, fun a => ⟨by omega, fun a2 => yes (by omega), fun a2 => no (by omega)⟩⟩
  intro d
  induction d with
  | zero =>
    intro j h1 hj e1 e2 e3 e4 e5 er hf
    refine r_X6_advance_77 ?_
    rw [e1, e2, e3, e4]
    exact ⟨s0, by omega, by omega, fun a => ⟨by omega, close j h1 (by omega) e1 e2 e3 e4 e5 er hf⟩, fun a => absurd a (by omega)⟩
  | succ d ih =>
    intro j h1 hj e1 e2 e3 e4 e5 er hf
    refine r_X6_advance_77 ?_
    have eB1 : h1 (t + 1) = B := by rw [hf (t + 1) (by omega)]; exact eB
    have sr := srt_r n B (q + j)
    rw [e1, e3]
    refine ⟨s0, by omega, by omega, fun a => absurd a (by omega), fun a => ?_⟩
    refine (c_X6_sortAt s e1 n0 (by omega) (by rw [eB1]; exact hB)).eq ?_
    rw [eB1, e2, e3, e4, f0, l1, eB1]
    rw [rnS] at er
    refine ⟨by omega, by omega, fun a2 => ?_, fun a2 => ?_⟩
    · rw [if_neg a2] at er
      exact close j h1 (by omega) e1 e2 e3 e4 e5 er hf
    · rw [if_pos a2, Int.add_assoc] at er
      have go : ∀ h2 h3 : AH, h2 = st h1 t 5 (vlS B m z q (j + 1)) → h3 = st h2 t 3 (h2 t 3 + 1) → XV mX6_advance 77 [some (vR t), none] [] w h3 Q := fun h2 h3 w2 w3 => ih (j + 1) h3 (by omega) (by rw [w3, st_slot _ _ _ _ (by decide), w2, st_slot _ _ _ _ (by decide)]; exact e1) (by rw [w3, st_slot _ _ _ _ (by decide), w2, st_slot _ _ _ _ (by decide)]; exact e2) (by rw [w3, st_same, w2, st_slot _ _ _ _ (by decide), e3]; omega) (by rw [w3, st_slot _ _ _ _ (by decide), w2, st_slot _ _ _ _ (by decide)]; exact e4) (by rw [w3, st_slot _ _ _ _ (by decide), w2, st_same]) (by rw [← er]; rfl) (fun b hb => by rw [w3, st_row _ _ _ hb, w2, st_row _ _ _ hb]; exact hf b hb)
      refine ⟨fun a3 => ⟨t1, by omega, by omega, fun h2 w2 h3 w3 => go h2 h3 ?_ w3⟩, fun a3 => ⟨t1, by omega, by omega, fun h2 w2 h3 w3 => go h2 h3 ?_ w3⟩⟩
      · rw [w2, e5, vlS]
        rcases hc with ⟨c1, -, -⟩ | ⟨-, m1, z1⟩
        · exact absurd c1 a3
        · rw [m1, z1]
      · rw [w2, e5, vlS]
        rcases hc with ⟨-, m1, z1⟩ | ⟨c1, -, -⟩
        · rw [m1, z1]; congr 1; omega
        · omega
end
