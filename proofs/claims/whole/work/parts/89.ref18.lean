/-! bytes -/
theorem and255 (x : Int32) : (x &&& 255).toInt = x.toInt % 256 := by
  have e : (x &&& 255).toBitVec = x.toBitVec &&& 255#32 := rfl
  have n : (x.toBitVec &&& 255#32).toNat = x.toBitVec.toNat % 256 := by
    rw [BitVec.toNat_and]
    exact Nat.and_two_pow_sub_one_eq_mod _ 8
  have l := Nat.mod_lt x.toBitVec.toNat (show 0 < 256 by decide)
  show (x &&& 255).toBitVec.toInt = x.toBitVec.toInt % 256
  rw [e, BitVec.toInt_eq_toNat_of_lt (by rw [n]; omega), n, BitVec.toInt_eq_toNat_cond]
  split <;> omega
theorem bmod256 (z : Int) : z.bmod (2 ^ 8) % 256 = z % 256 := by
  rw [Int.bmod_def]
  split <;> simp
theorem low8 {a s : Int} (hs : s = 24 ∨ s = 16 ∨ s = 8 ∨ s = 0) : andZ (shrZ a s) 255 = i2bZ (ushrZ a s) % 256 := by
  unfold andZ shrZ i2bZ ushrZ
  rw [Int32.ofInt_toInt, Int32.ofInt_toInt, Int32.toInt_toInt8, bmod256, show Int32.ofInt 255 = 255 from rfl, and255]
  generalize Int32.ofInt a = x
  have hx := BitVec.toInt_eq_toNat_cond x.toBitVec
  have hb := x.toBitVec.isLt
  rcases hs with rfl | rfl | rfl | rfl
  · have e1 : (x >>> (Int32.ofInt 24 &&& 31)).toInt = x.toBitVec.toInt / 16777216 := by
      show (x.toBitVec.sshiftRight 24).toInt = _
      rw [BitVec.toInt_sshiftRight, Int.shiftRight_eq_div_pow]; rfl
    have e2 : (x.toUInt32 >>> ((Int32.ofInt 24).toUInt32 &&& Int32.toUInt32 31)).toInt32.toInt = (x.toBitVec >>> 24).toInt := rfl
    have e3 := BitVec.toInt_eq_toNat_cond (x.toBitVec >>> 24)
    have e4 : (x.toBitVec >>> 24).toNat = x.toBitVec.toNat / 16777216 := by
      rw [BitVec.toNat_ushiftRight, Nat.shiftRight_eq_div_pow]
    rw [e4] at e3
    rw [e1, e2, e3, hx]
    split <;> split <;> omega
  · have e1 : (x >>> (Int32.ofInt 16 &&& 31)).toInt = x.toBitVec.toInt / 65536 := by
      show (x.toBitVec.sshiftRight 16).toInt = _
      rw [BitVec.toInt_sshiftRight, Int.shiftRight_eq_div_pow]; rfl
    have e2 : (x.toUInt32 >>> ((Int32.ofInt 16).toUInt32 &&& Int32.toUInt32 31)).toInt32.toInt = (x.toBitVec >>> 16).toInt := rfl
    have e3 := BitVec.toInt_eq_toNat_cond (x.toBitVec >>> 16)
    have e4 : (x.toBitVec >>> 16).toNat = x.toBitVec.toNat / 65536 := by
      rw [BitVec.toNat_ushiftRight, Nat.shiftRight_eq_div_pow]
    rw [e4] at e3
    rw [e1, e2, e3, hx]
    split <;> split <;> omega
  · have e1 : (x >>> (Int32.ofInt 8 &&& 31)).toInt = x.toBitVec.toInt / 256 := by
      show (x.toBitVec.sshiftRight 8).toInt = _
      rw [BitVec.toInt_sshiftRight, Int.shiftRight_eq_div_pow]; rfl
    have e2 : (x.toUInt32 >>> ((Int32.ofInt 8).toUInt32 &&& Int32.toUInt32 31)).toInt32.toInt = (x.toBitVec >>> 8).toInt := rfl
    have e3 := BitVec.toInt_eq_toNat_cond (x.toBitVec >>> 8)
    have e4 : (x.toBitVec >>> 8).toNat = x.toBitVec.toNat / 256 := by
      rw [BitVec.toNat_ushiftRight, Nat.shiftRight_eq_div_pow]
    rw [e4] at e3
    rw [e1, e2, e3, hx]
    split <;> split <;> omega
  · have e1 : (x >>> (Int32.ofInt 0 &&& 31)).toInt = x.toBitVec.toInt := by
      show (x.toBitVec.sshiftRight 0).toInt = _
      rw [BitVec.sshiftRight_zero]
    have e2 : (x.toUInt32 >>> ((Int32.ofInt 0).toUInt32 &&& Int32.toUInt32 31)).toInt32.toInt = (x.toBitVec >>> 0).toInt := rfl
    rw [e1, e2, BitVec.ushiftRight_zero]
theorem andZ_3 {j : Int} (h0 : 0 ≤ j) (h1 : j < 20) : andZ j 3 = j % 4 := by
  have : j = 0 ∨ j = 1 ∨ j = 2 ∨ j = 3 ∨ j = 4 ∨ j = 5 ∨ j = 6 ∨ j = 7 ∨ j = 8 ∨ j = 9 ∨ j = 10 ∨ j = 11 ∨ j = 12 ∨ j = 13 ∨ j = 14 ∨ j = 15 ∨ j = 16 ∨ j = 17 ∨ j = 18 ∨ j = 19 := by omega
  rcases this with rfl | rfl | rfl | rfl | rfl | rfl | rfl | rfl | rfl | rfl | rfl | rfl | rfl | rfl | rfl | rfl | rfl | rfl | rfl | rfl <;> decide
section
variable {w : WS} {h : AH} {n p : Int} {B S N : Int → Int}
theorem c_X9_fault {a : Int} (sA : shA w) (ha : inR a) : CI mX9_fault [vR 65, vI a] w h (fun x h' => x = (if a = 0 then h 65 4 else if a = 1 then h 65 5 else -1) ∧ h' = h) := by
  refine e_X9_fault (r_X9_fault_0 sA ⟨ha, fun c => ⟨fun c2 => ⟨?_, rfl⟩, fun c2 => ⟨?_, rfl⟩⟩, fun c => ⟨?_, rfl⟩⟩)
  · rw [if_neg c, if_neg c2]
  · rw [if_neg c, if_pos c2]
  · rw [if_pos c]
theorem c_X9_end {k : Int} (sA : shA w) (hk : inR k) (hn : 0 ≤ h 65 3 ∧ h 65 3 ≤ 600) : CI mX9_end [vR 65, vI k] w h (fun x h' => ((0 ≤ k ∧ k ≤ h 65 3) ∧ x = k ∧ h' = st h 65 3 k) ∨ (¬ (0 ≤ k ∧ k ≤ h 65 3) ∧ x = -1 ∧ h' = h)) := by
  refine e_X9_end (r_X9_end_0 sA ⟨hk, by omega, fun c h3 e3 => Or.inl ⟨c, rfl, e3⟩, fun c => Or.inr ⟨c, rfl, rfl⟩⟩)
theorem c_X9_feed {a b c d e : Int} (sA : shA w) (hn : 0 ≤ h 65 3 ∧ h 65 3 ≤ 600) : CI mX9_feed [vR 65, vI a, vI b, vI c, vI d, vI e] w h (fun x h' => (h 65 3 + 20 ≤ 600 ∧ x = h 65 3 + 20 ∧ (h' 65 3 = h 65 3 + 20 ∧ (∀ i, i ≠ 3 → h' 65 i = h 65 i) ∧ (∀ i, 0 ≤ i → i < h 65 3 → h' 67 i = h 67 i) ∧ (∀ j, 0 ≤ j → j < 20 → h' 67 (h 65 3 + j) = byt5 a b c d e j % 256) ∧ ∀ x, x ≠ 65 → x ≠ 67 → h' x = h x)) ∨ (¬ h 65 3 + 20 ≤ 600 ∧ x = -1 ∧ h' = h)) := by
  have bt : ∀ (v j i : Int), 0 ≤ j → j < 20 → i = j % 4 → andZ (shrZ v (24 - 8 * (andZ j 3))) 255 = byt v i % 256 := by
    intro v j i j0 j1 ei
    rw [andZ_3 j0 j1, ← ei]
    unfold byt
    exact low8 (by omega)
  have key : ∀ (k : Nat) (j : Int) (h1 : AH), h 65 3 + 20 ≤ 600 → j + k = 20 → 0 ≤ j → h1 65 = h 65 → (∀ i, 0 ≤ i → i < h 65 3 → h1 67 i = h 67 i) → (∀ i, 0 ≤ i → i < j → h1 67 (h 65 3 + i) = byt5 a b c d e i % 256) → (∀ x, x ≠ 65 → x ≠ 67 → h1 x = h x) → XI mX9_feed 18 [some (vR 65), some (vI a), some (vI b), some (vI c), some (vI d), some (vI e), some (vI j), none] [] w h1 (fun x h' => (h 65 3 + 20 ≤ 600 ∧ x = h 65 3 + 20 ∧ (h' 65 3 = h 65 3 + 20 ∧ (∀ i, i ≠ 3 → h' 65 i = h 65 i) ∧ (∀ i, 0 ≤ i → i < h 65 3 → h' 67 i = h 67 i) ∧ (∀ j, 0 ≤ j → j < 20 → h' 67 (h 65 3 + j) = byt5 a b c d e j % 256) ∧ ∀ x, x ≠ 65 → x ≠ 67 → h' x = h x)) ∨ (¬ h 65 3 + 20 ≤ 600 ∧ x = -1 ∧ h' = h)) := by
    intro k
    induction k with
    | zero =>
      intro j h1 hc hj j0 e65 e67 eb fo
      refine r_X9_feed_18 sA ⟨by omega, fun _ h2 e2 => ?_, fun z => absurd z (by omega)⟩
      rw [e65] at e2
      have g : h2 65 3 = h 65 3 + 20 := by rw [e2, st_same]
      exact Or.inl ⟨hc, g, g, fun i hi => by rw [e2, st_slot _ _ _ _ hi, e65], fun i i0 i1 => by rw [e2, st_cell _ _ _ _ (by decide)]; exact e67 i i0 i1, fun i i0 i1 => by rw [e2, st_cell _ _ _ _ (by decide)]; exact eb i i0 (by omega), fun x x1 x2 => by rw [e2, st_row _ _ _ x1]; exact fo x x1 x2⟩
    | succ k ih =>
      intro j h1 hc hj j0 e65 e67 eb fo
      have go : ∀ (v : Int) (h6 : AH), v = byt5 a b c d e j % 256 → h6 = st h1 67 (h 65 3 + j) v → XI mX9_feed 18 [some (vR 65), some (vI a), some (vI b), some (vI c), some (vI d), some (vI e), some (vI (j + 1)), none] [] w h6 (fun x h' => (h 65 3 + 20 ≤ 600 ∧ x = h 65 3 + 20 ∧ (h' 65 3 = h 65 3 + 20 ∧ (∀ i, i ≠ 3 → h' 65 i = h 65 i) ∧ (∀ i, 0 ≤ i → i < h 65 3 → h' 67 i = h 67 i) ∧ (∀ j, 0 ≤ j → j < 20 → h' 67 (h 65 3 + j) = byt5 a b c d e j % 256) ∧ ∀ x, x ≠ 65 → x ≠ 67 → h' x = h x)) ∨ (¬ h 65 3 + 20 ≤ 600 ∧ x = -1 ∧ h' = h)) := by
        intro v h6 ev e6
        refine ih (j + 1) h6 hc (by omega) (by omega) (by rw [e6, st_row _ _ _ (by decide)]; exact e65) (fun i i0 i1 => by rw [e6, st_slot _ _ _ _ (by omega)]; exact e67 i i0 i1) (fun i i0 i1 => ?_) (fun x x1 x2 => by rw [e6, st_row _ _ _ x2]; exact fo x x1 x2)
        by_cases z : i = j
        · rw [z, e6, st_same]; exact ev
        · rw [e6, st_slot _ _ _ _ (by omega)]; exact eb i i0 (by omega)
      refine r_X9_feed_18 sA ?_
      rw [e65]
      refine ⟨by omega, fun z => absurd z (by omega), fun _ => ⟨fun c4 => ⟨fun c8 => ⟨fun c12 => ⟨fun c16 => ⟨by omega, by omega, fun h6 e6 => go _ h6 ?_ e6⟩, fun c16 => ⟨by omega, by omega, fun h6 e6 => go _ h6 ?_ e6⟩⟩, fun c12 => ⟨by omega, by omega, fun h6 e6 => go _ h6 ?_ e6⟩⟩, fun c8 => ⟨by omega, by omega, fun h6 e6 => go _ h6 ?_ e6⟩⟩, fun c4 => ⟨by omega, by omega, fun h6 e6 => go _ h6 ?_ e6⟩⟩⟩
      · rw [byt5, if_neg (by omega), if_neg (by omega), if_neg (by omega), if_neg (by omega)]; exact bt e j _ j0 (by omega) (by omega)
      · rw [byt5, if_neg (by omega), if_neg (by omega), if_neg (by omega), if_pos (by omega)]; exact bt d j _ j0 (by omega) (by omega)
      · rw [byt5, if_neg (by omega), if_neg (by omega), if_pos (by omega)]; exact bt c j _ j0 (by omega) (by omega)
      · rw [byt5, if_neg (by omega), if_pos (by omega)]; exact bt b j _ j0 (by omega) (by omega)
      · rw [byt5, if_pos (by omega)]; exact bt a j _ j0 (by omega) (by omega)
  refine e_X9_feed (r_X9_feed_0 sA ⟨by omega, fun q => key 20 0 h q (by omega) (by omega) rfl (fun i _ _ => rfl) (fun i i0 i1 => by omega) (fun x _ _ => rfl), fun q => Or.inr ⟨q, rfl, rfl⟩⟩)
end
