/-! ===== the reference reads ===== -/
def tpR (h : AH) (n : Int) (B : Int → Int) : Prop := (0 ≤ n ∧ n ≤ 600) ∧ h 65 33 = n ∧ (∀ i, 0 ≤ i → i < n → h 67 i = B i % 256) ∧ ∀ i, 0 ≤ i → i < n → -128 ≤ B i ∧ B i ≤ 127
/-- only the token has changed -/
def fT (h h' : AH) : Prop := (∀ b, b ≠ 65 → h' b = h b) ∧ ∀ i, (i < 34 ∨ 38 < i) → h' 65 i = h 65 i
def isTM (h : AH) (n : Int) (B : Int → Int) (p : Int) : Prop :=
  h 65 33 = n ∧ h 65 36 = tkQ n B p ∧ h 65 34 = tkE n B p ∧ (0 ≤ h 65 35 ∧ h 65 35 ≤ 4) ∧ (h 65 35 = 0 ↔ tkT n B p = 0) ∧ (h 65 35 = 3 ↔ tkT n B p = 5) ∧ (h 65 35 = 2 ↔ tkT n B p = 4) ∧ (tkT n B p = 4 → h 65 38 = tkV n B p) ∧ ((h 65 35 = 1 ∧ h 65 37 ≤ 6) ↔ tkT n B p = 3) ∧ (tkT n B p = 3 → h 65 38 = c27 6 (tkV n B p)) ∧ (h 65 35 = 1 → ¬ h 65 37 ≤ 6 → h 65 38 = -1 ∨ 387420489 ≤ h 65 38) ∧ (h 65 35 = 1 → inL (h 65 38)) ∧ inR (h 65 37)
section
variable {w : WS} {h : AH} {n p : Int} {B : Int → Int}
theorem fT_rfl (h : AH) : fT h h := ⟨fun _ _ => rfl, fun _ _ => rfl⟩
theorem fT_st {h1 : AH} {i v : Int} (a : fT h h1) (hi : 34 ≤ i ∧ i ≤ 38) : fT h (st h1 65 i v) := ⟨fun b hb => by rw [st_row _ _ _ hb]; exact a.1 b hb, fun j hj => by rw [st_slot _ _ _ _ (by omega)]; exact a.2 j hj⟩
theorem tpR_f {h' : AH} (T : tpR h n B) (f : fT h h') : tpR h' n B := ⟨T.1, by rw [f.2 33 (by decide)]; exact T.2.1, fun i i0 i1 => by rw [f.1 67 (by decide)]; exact T.2.2.1 i i0 i1, T.2.2.2⟩
theorem bA_srt (T : tpR h n B) {k : Int} (k0 : 0 ≤ k) : (-1 ≤ bA h k ∧ bA h k ≤ 255) ∧ (0 ≤ bA h k ↔ srt n B k ≠ 0) ∧ ((bA h k = 32 ∨ bA h k = 10) ↔ srt n B k = 2) ∧ ((97 ≤ bA h k ∧ bA h k ≤ 122) ↔ srt n B k = 3) ∧ ((48 ≤ bA h k ∧ bA h k ≤ 57) ↔ srt n B k = 4) ∧ (bA h k = 59 ↔ srt n B k = 5) ∧ ((srt n B k = 3 ∨ srt n B k = 4) → bA h k = B k) := by
  unfold bA srt
  rw [T.2.1]
  by_cases c : k < n
  · have b := T.2.2.2 k k0 c
    rw [if_pos c, if_neg (by omega), T.2.2.1 k k0 c]
    generalize B k = x at b
    unfold srC
    have m : x % 256 = if 0 ≤ x then x else x + 256 := by
      split <;> omega
    rw [m]
    by_cases s : 0 ≤ x
    · rw [if_pos s]
      by_cases c1 : 97 ≤ x ∧ x ≤ 122
      · rw [if_pos c1]; omega
      · rw [if_neg c1]
        by_cases c2 : 48 ≤ x ∧ x ≤ 57
        · rw [if_pos c2]; omega
        · rw [if_neg c2]
          by_cases c3 : x = 59
          · rw [if_pos c3]; omega
          · rw [if_neg c3]
            by_cases c4 : x = 32 ∨ x = 10
            · rw [if_pos c4]; omega
            · rw [if_neg c4]; omega
    · rw [if_neg s, if_neg (by omega), if_neg (by omega), if_neg (by omega), if_neg (by omega)]; omega
  · rw [if_neg c, if_pos (by omega)]; omega
/-- a word's number, by its letters -/
def wv (B : Int → Int) (q : Int) (l : Nat) : Int := if l ≤ 9 then vlS B 27 96 q l else -1
theorem vlS_lo {B : Int → Int} {q : Int} : ∀ l : Nat, (∀ i, q ≤ i → i < q + l → 97 ≤ B i ∧ B i ≤ 122) → (0 ≤ vlS B 27 96 q l ∧ vlS B 27 96 q l < (27 : Int) ^ l) ∧ (1 ≤ l → (27 : Int) ^ (l - 1) ≤ vlS B 27 96 q l) := by
  intro l
  induction l with
  | zero => intro _; rw [vlS]; exact ⟨⟨Int.le_refl _, by decide⟩, fun h => by omega⟩
  | succ l ih =>
    intro hb
    obtain ⟨a1, a2⟩ := ih (fun i i0 i1 => hb i i0 (by omega))
    have b := hb (q + l) (by omega) (by omega)
    rw [vlS, Int.pow_succ, Nat.add_sub_cancel]
    refine ⟨by omega, fun _ => ?_⟩
    cases l with
    | zero => rw [vlS, show (27 : Int) ^ 0 = 1 from rfl]; omega
    | succ l =>
      have := a2 (by omega)
      rw [Nat.add_sub_cancel] at this
      rw [Int.pow_succ]
      omega
theorem pow27 : (27 : Int) ^ 6 = 387420489 ∧ (27 : Int) ^ 7 = 10460353203 ∧ (27 : Int) ^ 8 = 282429536481 ∧ (27 : Int) ^ 9 = 7625597484987 := by decide
theorem wv_r {B : Int → Int} {q : Int} {l : Nat} (hb : ∀ i, q ≤ i → i < q + l → 97 ≤ B i ∧ B i ≤ 122) : inL (wv B q l) ∧ (6 < l → wv B q l = -1 ∨ 387420489 ≤ wv B q l) := by
  obtain ⟨a1, a2⟩ := vlS_lo l hb
  obtain ⟨p6, p7, p8, p9⟩ := pow27
  unfold wv
  split
  · next c =>
    have mono : (27 : Int) ^ l ≤ (27 : Int) ^ 9 := by
      have : l = 0 ∨ l = 1 ∨ l = 2 ∨ l = 3 ∨ l = 4 ∨ l = 5 ∨ l = 6 ∨ l = 7 ∨ l = 8 ∨ l = 9 := by omega
      rcases this with e | e | e | e | e | e | e | e | e | e <;> rw [e] <;> decide
    refine ⟨by omega, fun c2 => Or.inr ?_⟩
    have := a2 (by omega)
    have : l = 7 ∨ l = 8 ∨ l = 9 := by omega
    rcases this with rfl | rfl | rfl <;> (have z := a2 (by omega); simp at z; omega)
  · exact ⟨by decide, fun _ => Or.inl rfl⟩
theorem c_X9_takes (sA : shA w) (T : tpR h n B) (hp : h 65 34 = p) (p0 : 0 ≤ p ∧ p ≤ n) : CV mX9_takes [vR 65] w h (fun h' => isTM h' n B p ∧ fT h h') := by
  have n0 := T.1
  have tq := tkQ_r (B := B) p0
  have te := tkE_r (B := B) p0
  -- behind a word
  have word : ∀ (d j : Nat) (h1 : AH), tkQ n B p + j + d = n → srt n B (tkQ n B p) = 3 → (∀ i, tkQ n B p ≤ i → i < tkQ n B p + j → srt n B i = 3) → rnS n B 3 d (tkQ n B p + j) = tkE n B p → h1 65 36 = tkQ n B p → h1 65 34 = tkQ n B p + j → h1 65 38 = wv B (tkQ n B p) j → fT h h1 → XV mX9_takes 80 [some (vR 65), none] [] w h1 (fun h' => isTM h' n B p ∧ fT h h') := by
    intro d
    have fin : ∀ (j : Nat) (h1 h4 h6 : AH), srt n B (tkQ n B p) = 3 → (∀ i, tkQ n B p ≤ i → i < tkQ n B p + j → srt n B i = 3) → tkQ n B p + j = tkE n B p → h1 65 36 = tkQ n B p → h1 65 34 = tkQ n B p + j → h1 65 38 = wv B (tkQ n B p) j → fT h h1 → h4 = st h1 65 35 1 → h6 = st h4 65 37 (h4 65 34 - h4 65 36) → isTM h6 n B p ∧ fT h h6 := by
      intro j h1 h4 h6 hs hall hE e36 e34 e38 hf e4 e6
      have f6 : fT h h6 := by rw [e6, e4]; exact fT_st (fT_st hf (by decide)) (by decide)
      have g36 : h4 65 36 = tkQ n B p := by rw [e4, st_slot _ _ _ _ (by decide)]; exact e36
      have g34 : h4 65 34 = tkE n B p := by rw [e4, st_slot _ _ _ _ (by decide), e34]; exact hE
      rw [g34, g36] at e6
      have k35 : h6 65 35 = 1 := by rw [e6, st_slot _ _ _ _ (by decide), e4, st_same]
      have k37 : h6 65 37 = tkE n B p - tkQ n B p := by rw [e6, st_same]
      have k38 : h6 65 38 = wv B (tkQ n B p) j := by rw [e6, st_slot _ _ _ _ (by decide), e4, st_slot _ _ _ _ (by decide)]; exact e38
      have el : tkE n B p - tkQ n B p = j := by omega
      have tt : tkT n B p = if 6 < tkE n B p - tkQ n B p then 1 else 3 := by
        rw [tkT, hs]
        by_cases c : 6 < tkE n B p - tkQ n B p
        · rw [if_pos (Or.inl ⟨rfl, c⟩), if_pos c]
        · rw [if_neg (by omega), if_neg c]
      have wr := wv_r (B := B) (q := tkQ n B p) (l := j) (fun i i0 i1 => srt_3 (n := n) (hall i i0 i1))
      refine ⟨⟨by rw [f6.2 33 (by decide)]; exact T.2.1, by rw [e6, st_slot _ _ _ _ (by decide)]; exact g36, by rw [e6, st_slot _ _ _ _ (by decide)]; exact g34, by omega, ?_, ?_, ?_, ?_, ?_, ?_, ?_, ?_, by omega⟩, f6⟩
      · rw [tt, k35]; split <;> omega
      · rw [tt, k35]; split <;> omega
      · rw [tt, k35]; split <;> omega
      · intro z; rw [tt] at z; split at z <;> omega
      · rw [tt, k35, k37]; split <;> omega
      · intro z
        rw [k38, (tk_word z).2, el, Int.toNat_natCast, wv, if_pos]
        rw [tt] at z
        split at z
        · omega
        · omega
      · intro _ z; rw [k38]; rw [k37] at z; exact wr.2 (by omega)
      · intro _; rw [k38]; exact wr.1
    induction d with
    | zero =>
      intro j h1 hj hs hall hr e36 e34 e38 hf
      have T1 := tpR_f T hf
      have b := bA_srt T1 (k := tkQ n B p + j) (by omega)
      have s0 : srt n B (tkQ n B p + j) = 0 := by rw [srt, if_pos (by omega)]
      have hE : tkQ n B p + j = tkE n B p := by rw [← hr, rnS]
      refine r_X9_takes_80 sA ?_
      rw [e34, T1.2.1]
      refine ⟨by omega, by omega, by omega, fun c h4 e4 h6 e6 => fin j h1 h4 h6 hs hall hE e36 e34 e38 hf e4 e6, fun c => ?_⟩
      have := b.2.2.2.1.mp c
      omega
    | succ d ih =>
      intro j h1 hj hs hall hr e36 e34 e38 hf
      have T1 := tpR_f T hf
      have b := bA_srt T1 (k := tkQ n B p + j) (by omega)
      refine r_X9_takes_80 sA ?_
      rw [e34, T1.2.1, e36]
      rw [rnS] at hr
      refine ⟨by omega, by omega, by omega, fun c h4 e4 h6 e6 => ?_, fun c => ?_⟩
      · rw [if_neg (fun z => c (b.2.2.2.1.mpr z))] at hr
        exact fin j h1 h4 h6 hs hall hr e36 e34 e38 hf e4 e6
      · have s3 := b.2.2.2.1.mp c
        rw [if_pos s3, Int.add_assoc] at hr
        have eb := b.2.2.2.2.2.2 (Or.inl s3)
        have hall' : ∀ i, tkQ n B p ≤ i → i < tkQ n B p + ((j + 1 : Nat) : Int) → srt n B i = 3 := fun i i0 i1 => by
          by_cases e : i = tkQ n B p + j
          · rw [e]; exact s3
          · exact hall i i0 (by omega)
        have go : ∀ (v : Int) (h9 h11 : AH), v = wv B (tkQ n B p) (j + 1) → h9 = st h1 65 38 v → h11 = st h9 65 34 (h9 65 34 + 1) → XV mX9_takes 80 [some (vR 65), none] [] w h11 (fun h' => isTM h' n B p ∧ fT h h') := by
          intro v h9 h11 ev e9 e11
          refine ih (j + 1) h11 (by omega) hs hall' hr (by rw [e11, st_slot _ _ _ _ (by decide), e9, st_slot _ _ _ _ (by decide)]; exact e36) (by rw [e11, st_same, e9, st_slot _ _ _ _ (by decide), e34]; omega) (by rw [e11, st_slot _ _ _ _ (by decide), e9, st_same]; exact ev) (by rw [e11, e9]; exact fT_st (fT_st hf (by decide)) (by decide))
        refine ⟨by omega, fun c2 h9 e9 h11 e11 => go _ h9 h11 ?_ e9 e11, fun c2 h13 e13 h15 e15 => go _ h13 h15 ?_ e13 e15⟩
        · rw [wv, if_neg (by omega)]
        · rw [e38, eb, wv, if_pos (by omega), wv, if_pos (by omega), vlS]; omega
  -- behind a number
  have num : ∀ (d j : Nat) (h1 : AH), tkQ n B p + j + d = n → srt n B (tkQ n B p) = 4 → rnS n B 4 d (tkQ n B p + j) = tkE n B p → h1 65 36 = tkQ n B p → h1 65 34 = tkQ n B p + j → (j ≤ 3 → h1 65 38 = vlS B 10 48 (tkQ n B p) j) → fT h h1 → XV mX9_takes 170 [some (vR 65), none] [] w h1 (fun h' => isTM h' n B p ∧ fT h h') := by
    intro d
    have fin : ∀ (j : Nat) (h1 : AH), srt n B (tkQ n B p) = 4 → tkQ n B p + j = tkE n B p → h1 65 36 = tkQ n B p → h1 65 34 = tkQ n B p + j → (j ≤ 3 → h1 65 38 = vlS B 10 48 (tkQ n B p) j) → fT h h1 → (inR (tkQ n B p + j - tkQ n B p) ∧ ((tkQ n B p + j - tkQ n B p ≤ 3 → (∀ h5, h5 = st h1 65 35 2 → (∀ h7, h7 = st h5 65 37 (h5 65 34 - h5 65 36) → isTM h7 n B p ∧ fT h h7))) ∧ (¬ tkQ n B p + j - tkQ n B p ≤ 3 → (∀ h9, h9 = st h1 65 35 4 → (∀ h11, h11 = st h9 65 37 (h9 65 34 - h9 65 36) → isTM h11 n B p ∧ fT h h11))))) := by
      intro j h1 hs hE e36 e34 e38 hf
      have all : ∀ (v : Int) (h5 h7 : AH), ((v = 2 ∧ j ≤ 3) ∨ (v = 4 ∧ ¬ j ≤ 3)) → h5 = st h1 65 35 v → h7 = st h5 65 37 (h5 65 34 - h5 65 36) → isTM h7 n B p ∧ fT h h7 := by
        intro v h5 h7 hv e5 e7
        have f7 : fT h h7 := by rw [e7, e5]; exact fT_st (fT_st hf (by decide)) (by decide)
        have g36 : h5 65 36 = tkQ n B p := by rw [e5, st_slot _ _ _ _ (by decide)]; exact e36
        have g34 : h5 65 34 = tkE n B p := by rw [e5, st_slot _ _ _ _ (by decide), e34]; exact hE
        rw [g34, g36] at e7
        have k35 : h7 65 35 = v := by rw [e7, st_slot _ _ _ _ (by decide), e5, st_same]
        have k37 : h7 65 37 = tkE n B p - tkQ n B p := by rw [e7, st_same]
        have k38 : h7 65 38 = h1 65 38 := by rw [e7, st_slot _ _ _ _ (by decide), e5, st_slot _ _ _ _ (by decide)]
        have el : tkE n B p - tkQ n B p = j := by omega
        have tt : tkT n B p = if 3 < tkE n B p - tkQ n B p then 1 else 4 := by
          rw [tkT, hs]
          by_cases c : 3 < tkE n B p - tkQ n B p
          · rw [if_pos (Or.inr ⟨rfl, c⟩), if_pos c]
          · rw [if_neg (by omega), if_neg c]
        refine ⟨⟨by rw [f7.2 33 (by decide)]; exact T.2.1, by rw [e7, st_slot _ _ _ _ (by decide)]; exact g36, by rw [e7, st_slot _ _ _ _ (by decide)]; exact g34, by omega, ?_, ?_, ?_, ?_, ?_, ?_, ?_, ?_, by omega⟩, f7⟩
        · rw [tt, k35]; split <;> omega
        · rw [tt, k35]; split <;> omega
        · rw [tt, k35]; split <;> omega
        · intro z
          rw [k38, tkV, hs, if_neg (by decide), if_pos rfl, el, Int.toNat_natCast]
          refine e38 ?_
          rw [tt] at z
          split at z <;> omega
        · rw [tt, k35]; split <;> omega
        · intro z; rw [tt] at z; split at z <;> omega
        · intro z; omega
        · intro z; omega
      exact ⟨by omega, fun c h5 e5 h7 e7 => all 2 h5 h7 (Or.inl ⟨rfl, by omega⟩) e5 e7, fun c h9 e9 h11 e11 => all 4 h9 h11 (Or.inr ⟨rfl, by omega⟩) e9 e11⟩
    induction d with
    | zero =>
      intro j h1 hj hs hr e36 e34 e38 hf
      have T1 := tpR_f T hf
      have b := bA_srt T1 (k := tkQ n B p + j) (by omega)
      have s0 : srt n B (tkQ n B p + j) = 0 := by rw [srt, if_pos (by omega)]
      have hE : tkQ n B p + j = tkE n B p := by rw [← hr, rnS]
      refine r_X9_takes_170 sA ?_
      rw [e34, T1.2.1, e36]
      refine ⟨by omega, by omega, by omega, fun c => fin j h1 hs hE e36 e34 e38 hf, fun c => ?_⟩
      have := b.2.2.2.2.1.mp c
      omega
    | succ d ih =>
      intro j h1 hj hs hr e36 e34 e38 hf
      have T1 := tpR_f T hf
      have b := bA_srt T1 (k := tkQ n B p + j) (by omega)
      refine r_X9_takes_170 sA ?_
      rw [e34, T1.2.1, e36]
      rw [rnS] at hr
      refine ⟨by omega, by omega, by omega, fun c => ?_, fun c => ?_⟩
      · rw [if_neg (fun z => c (b.2.2.2.2.1.mpr z))] at hr
        exact fin j h1 hs hr e36 e34 e38 hf
      · have s4 := b.2.2.2.2.1.mp c
        rw [if_pos s4, Int.add_assoc] at hr
        have eb := b.2.2.2.2.2.2 (Or.inr s4)
        have go : ∀ (v : Int) (h9 h11 : AH), (j + 1 ≤ 3 → v = vlS B 10 48 (tkQ n B p) (j + 1)) → h9 = st h1 65 38 v → h11 = st h9 65 34 (h9 65 34 + 1) → XV mX9_takes 170 [some (vR 65), none] [] w h11 (fun h' => isTM h' n B p ∧ fT h h') := by
          intro v h9 h11 ev e9 e11
          refine ih (j + 1) h11 (by omega) hs hr (by rw [e11, st_slot _ _ _ _ (by decide), e9, st_slot _ _ _ _ (by decide)]; exact e36) (by rw [e11, st_same, e9, st_slot _ _ _ _ (by decide), e34]; omega) (fun z => by rw [e11, st_slot _ _ _ _ (by decide), e9, st_same]; exact ev z) (by rw [e11, e9]; exact fT_st (fT_st hf (by decide)) (by decide))
        refine ⟨by omega, fun c2 h9 e9 h11 e11 => go _ h9 h11 (fun z => by omega) e9 e11, fun c2 h13 e13 h15 e15 => go _ h13 h15 (fun z => ?_) e13 e15⟩
        rw [e38 (by omega), eb, vlS]; omega
  -- the blanks
  have key : ∀ (d : Nat) (k : Int) (h1 : AH), k + d = n → 0 ≤ k → skp n B d k = tkQ n B p → h1 65 34 = k → fT h h1 → XV mX9_takes 0 [some (vR 65), none] [] w h1 (fun h' => isTM h' n B p ∧ fT h h') := by
    intro d
    -- at the token
    have tok : ∀ (h1 : AH), srt n B (tkQ n B p) ≠ 2 → h1 65 34 = tkQ n B p → fT h h1 → ∀ h6, h6 = st h1 65 36 (h1 65 34) → ((0 ≤ h6 65 34 ∧ h6 65 34 ≤ 1000) ∧ (0 ≤ h6 65 33 ∧ h6 65 33 ≤ 600) ∧ (∀ h10, h10 = st h6 65 38 0 → (inR (bA h6 (h6 65 34)) ∧ ((0 ≤ (bA h6 (h6 65 34)) → ((¬ (97 ≤ (bA h6 (h6 65 34)) ∧ (bA h6 (h6 65 34)) ≤ 122) → ((¬ (48 ≤ (bA h6 (h6 65 34)) ∧ (bA h6 (h6 65 34)) ≤ 57) → (∀ h13, h13 = st h10 65 34 ((h10 65 34) + 1) → (∀ h15, h15 = st h13 65 38 (bA h6 (h6 65 34)) → ((¬ (bA h6 (h6 65 34)) = 59 → (∀ h17, h17 = st h15 65 35 4 → (∀ h19, h19 = st h17 65 37 ((h17 65 34) - (h17 65 36)) → isTM h19 n B p ∧ fT h h19))) ∧ ((bA h6 (h6 65 34)) = 59 → (∀ h21, h21 = st h15 65 35 3 → (∀ h23, h23 = st h21 65 37 ((h21 65 34) - (h21 65 36)) → isTM h23 n B p ∧ fT h h23))))))) ∧ ((48 ≤ (bA h6 (h6 65 34)) ∧ (bA h6 (h6 65 34)) ≤ 57) → XV mX9_takes 170 [some (vR 65), none] [] w h10 (fun h' => isTM h' n B p ∧ fT h h')))) ∧ ((97 ≤ (bA h6 (h6 65 34)) ∧ (bA h6 (h6 65 34)) ≤ 122) → XV mX9_takes 80 [some (vR 65), none] [] w h10 (fun h' => isTM h' n B p ∧ fT h h')))) ∧ (¬ 0 ≤ (bA h6 (h6 65 34)) → (∀ h31, h31 = st h10 65 35 0 → (∀ h33, h33 = st h31 65 37 ((h31 65 34) - (h31 65 36)) → isTM h33 n B p ∧ fT h h33))))))) := by
      intro h1 s2 e34 hf h6 e6
      have g34 : h6 65 34 = tkQ n B p := by rw [e6, st_slot _ _ _ _ (by decide)]; exact e34
      have g36 : h6 65 36 = tkQ n B p := by rw [e6, st_same]; exact e34
      have f6 : fT h h6 := by rw [e6]; exact fT_st hf (by decide)
      have T6 := tpR_f T f6
      have b := bA_srt T6 (k := tkQ n B p) (by omega)
      have sr := srt_r n B (tkQ n B p)
      rw [g34, T6.2.1]
      refine ⟨by omega, by omega, fun h10 e10 => ⟨by omega, fun c => ⟨fun c1 => ⟨fun c2 h13 e13 h15 e15 => ?_, fun c2 => ?_⟩, fun c1 => ?_⟩, fun c h31 e31 h33 e33 => ?_⟩⟩
      · -- a sign
        have ns : srt n B (tkQ n B p) = 5 ∨ srt n B (tkQ n B p) = 1 := by
          have a1 : srt n B (tkQ n B p) ≠ 3 := fun z => c1 (b.2.2.2.1.mpr z)
          have a2 : srt n B (tkQ n B p) ≠ 4 := fun z => c2 (b.2.2.2.2.1.mpr z)
          have a3 := b.2.1.mp c
          omega
        have eE : tkE n B p = tkQ n B p + 1 := by rw [tkE, if_neg (by omega), if_neg (by omega)]
        have tt : tkT n B p = srt n B (tkQ n B p) := by rw [tkT, if_neg (by omega)]
        have all : ∀ (v : Int) (h17 h19 : AH), ((v = 4 ∧ srt n B (tkQ n B p) = 1) ∨ (v = 3 ∧ srt n B (tkQ n B p) = 5)) → h17 = st h15 65 35 v → h19 = st h17 65 37 (h17 65 34 - h17 65 36) → isTM h19 n B p ∧ fT h h19 := by
          intro v h17 h19 hv e17 e19
          have f19 : fT h h19 := by rw [e19, e17, e15, e13, e10]; exact fT_st (fT_st (fT_st (fT_st (fT_st f6 (by decide)) (by decide)) (by decide)) (by decide)) (by decide)
          have k36 : h17 65 36 = tkQ n B p := by rw [e17, st_slot _ _ _ _ (by decide), e15, st_slot _ _ _ _ (by decide), e13, st_slot _ _ _ _ (by decide), e10, st_slot _ _ _ _ (by decide)]; exact g36
          have k34 : h17 65 34 = tkE n B p := by rw [e17, st_slot _ _ _ _ (by decide), e15, st_slot _ _ _ _ (by decide), e13, st_same, e10, st_slot _ _ _ _ (by decide), g34, eE]
          rw [k34, k36] at e19
          have k35 : h19 65 35 = v := by rw [e19, st_slot _ _ _ _ (by decide), e17, st_same]
          have k37 : h19 65 37 = tkE n B p - tkQ n B p := by rw [e19, st_same]
          refine ⟨⟨by rw [f19.2 33 (by decide)]; exact T.2.1, by rw [e19, st_slot _ _ _ _ (by decide)]; exact k36, by rw [e19, st_slot _ _ _ _ (by decide)]; exact k34, by omega, by omega, by omega, by omega, fun z => by omega, by omega, fun z => by omega, fun z => by omega, fun z => by omega, by omega⟩, f19⟩
        refine ⟨fun c3 h17 e17 h19 e19 => all 4 h17 h19 (Or.inl ⟨rfl, ?_⟩) e17 e19, fun c3 h21 e21 h23 e23 => all 3 h21 h23 (Or.inr ⟨rfl, b.2.2.2.2.2.1.mp c3⟩) e21 e23⟩
        rcases ns with z | z
        · exact absurd (b.2.2.2.2.2.1.mpr z) c3
        · exact z
      · have s4 := b.2.2.2.2.1.mp c2
        refine num (n - tkQ n B p).toNat 0 h10 (by omega) s4 ?_ (by rw [e10, st_slot _ _ _ _ (by decide)]; exact g36) (by rw [e10, st_slot _ _ _ _ (by decide), g34]; simp) (fun _ => by rw [e10, st_same]; rfl) (by rw [e10]; exact fT_st f6 (by decide))
        rw [tkE, if_pos (Or.inr s4), s4]; simp
      · have s3 := b.2.2.2.1.mp c1
        refine word (n - tkQ n B p).toNat 0 h10 (by omega) s3 (fun i i0 i1 => by omega) ?_ (by rw [e10, st_slot _ _ _ _ (by decide)]; exact g36) (by rw [e10, st_slot _ _ _ _ (by decide), g34]; simp) (by rw [e10, st_same]; rfl) (by rw [e10]; exact fT_st f6 (by decide))
        rw [tkE, if_pos (Or.inl s3), s3]; simp
      · have s0 : srt n B (tkQ n B p) = 0 := by
          apply Decidable.byContradiction
          intro z
          exact c (b.2.1.mpr z)
        have eE : tkE n B p = tkQ n B p := by rw [tkE, if_neg (by omega), if_pos s0]
        have tt : tkT n B p = 0 := by rw [tkT, s0, if_neg (by omega)]
        have f33 : fT h h33 := by rw [e33, e31, e10]; exact fT_st (fT_st (fT_st f6 (by decide)) (by decide)) (by decide)
        have k36 : h31 65 36 = tkQ n B p := by rw [e31, st_slot _ _ _ _ (by decide), e10, st_slot _ _ _ _ (by decide)]; exact g36
        have k34 : h31 65 34 = tkE n B p := by rw [e31, st_slot _ _ _ _ (by decide), e10, st_slot _ _ _ _ (by decide), g34, eE]
        rw [k34, k36] at e33
        have k35 : h33 65 35 = 0 := by rw [e33, st_slot _ _ _ _ (by decide), e31, st_same]
        have k37 : h33 65 37 = tkE n B p - tkQ n B p := by rw [e33, st_same]
        exact ⟨⟨by rw [f33.2 33 (by decide)]; exact T.2.1, by rw [e33, st_slot _ _ _ _ (by decide)]; exact k36, by rw [e33, st_slot _ _ _ _ (by decide)]; exact k34, by omega, by omega, by omega, by omega, fun z => by omega, by omega, fun z => by omega, fun z => by omega, fun z => by omega, by omega⟩, f33⟩
    induction d with
    | zero =>
      intro k h1 hk k0 es e34 hf
      rw [skp] at es
      have T1 := tpR_f T hf
      have b := bA_srt T1 k0
      have s0 : srt n B k = 0 := by rw [srt, if_pos (by omega)]
      have V := tok h1 (by rw [← es, s0]; decide) (by rw [e34]; exact es) hf
      refine r_X9_takes_0 sA ?_
      rw [T1.2.1]
      have n32 : ¬ (bA h1 k = 32 ∨ bA h1 k = 10) := fun z => by have := b.2.2.1.mp z; omega
      refine ⟨by omega, by omega, by rw [e34]; omega, fun c => absurd (Or.inl (by rw [← e34]; exact c)) n32, fun c => ⟨fun c2 => V, fun c2 => absurd (Or.inr (by rw [← e34]; exact c2)) n32⟩⟩
    | succ d ih =>
      intro k h1 hk k0 es e34 hf
      have T1 := tpR_f T hf
      have b := bA_srt T1 k0
      rw [skp] at es
      have next : ∀ h4 : AH, srt n B k = 2 → h4 = st h1 65 34 (h1 65 34 + 1) → XV mX9_takes 0 [some (vR 65), none] [] w h4 (fun h' => isTM h' n B p ∧ fT h h') := by
        intro h4 s2 e4
        rw [if_pos s2] at es
        exact ih (k + 1) h4 (by omega) (by omega) es (by rw [e4, st_same, e34]) (by rw [e4]; exact fT_st hf (by decide))
      refine r_X9_takes_0 sA ?_
      rw [T1.2.1]
      refine ⟨by omega, by omega, by rw [e34]; omega, fun c h4 e4 => next h4 (b.2.2.1.mp (Or.inl (by rw [← e34]; exact c))) e4, fun c => ⟨fun c2 => ?_, fun c2 h37 e37 => next h37 (b.2.2.1.mp (Or.inr (by rw [← e34]; exact c2))) e37⟩⟩
      have s2 : srt n B k ≠ 2 := fun z => by
        rw [e34] at c c2
        rcases b.2.2.1.mpr z with y | y
        · exact c y
        · exact c2 y
      rw [if_neg s2] at es
      exact tok h1 (by rw [← es]; exact s2) (by rw [e34]; exact es) hf
  exact e_X9_takes (key (n - p).toNat p h (by omega) p0.1 rfl hp (fT_rfl h))
end
