section
variable {w : WS} {h : AH} {S : Int → Int}
theorem c_X9_wakesNo {p : Int} (sA : shA w) (hi : inR p) (hp : ¬ (0 ≤ p ∧ p < 6)) : CI mX9_wakes [vR 65, vI p] w h (fun x h' => x = -1 ∧ h' = h) := e_X9_wakes (r_X9_wakes_0 sA ((c_X9_laysPlanNo sA hi hp).eq ⟨by decide, fun _ => ⟨rfl, rfl⟩, fun c => absurd rfl c⟩))
theorem c_X9_wakes {p m : Int} {t : Int → Int} (sA : shA w) (A : isAll h S) (iN : okS S ∧ cN S ≤ 200) (hp : 0 ≤ p ∧ p < 6) (P : planS (cN S) (cF S) (cL S) (cW S) S p m t) : CI mX9_wakes [vR 65, vI p] w h (fun x h' => x = m ∧ kM h h') := by
  refine e_X9_wakes (r_X9_wakes_0 sA ((c_X9_laysPlan sA A iN hp).mono ?_))
  rintro x h1 ⟨rfl, R, Q, k⟩
  obtain ⟨V, okw, kp⟩ := plan_V iN Q P
  exact ⟨by decide, fun c => absurd c (by decide), fun _ => ⟨V.1, k⟩⟩
theorem c_X9_wakeNo {p k : Int} (sA : shA w) (hi : inR p) (hp : ¬ (0 ≤ p ∧ p < 6)) : CI mX9_wake [vR 65, vI p, vI k] w h (fun x h' => x = -1 ∧ h' = h) := e_X9_wake (r_X9_wake_0 sA ((c_X9_laysPlanNo sA hi hp).eq ⟨by decide, fun _ => ⟨rfl, rfl⟩, fun c => absurd rfl c⟩))
theorem c_X9_wake {p m k : Int} {t : Int → Int} (sA : shA w) (A : isAll h S) (iN : okS S ∧ cN S ≤ 200) (hp : 0 ≤ p ∧ p < 6) (P : planS (cN S) (cF S) (cL S) (cW S) S p m t) (hk : inR k) : CI mX9_wake [vR 65, vI p, vI k] w h (fun x h' => x = (if 0 ≤ k ∧ k < m then t k else -1) ∧ kM h h') := by
  refine e_X9_wake (r_X9_wake_0 sA ((c_X9_laysPlan sA A iN hp).mono ?_))
  rintro x h1 ⟨rfl, R, Q, km⟩
  obtain ⟨V, okw, kp⟩ := plan_V iN Q P
  have m0 := okw.1
  rw [V.1]
  refine ⟨by decide, fun c => absurd c (by decide), fun _ => ⟨hk, by omega, fun c => ⟨by rw [if_neg (by omega)], km⟩, fun c => ⟨by omega, by omega, ?_, km⟩⟩⟩
  rw [if_pos (by omega)]
  exact V.2 k (by omega) (by omega)
theorem c_X9_priceNo {p a : Int} (sA : shA w) (hi : inR p) (hp : ¬ (0 ≤ p ∧ p < 6)) : CI mX9_price [vR 65, vI p, vI a] w h (fun x h' => x = -1 ∧ h' = h) := e_X9_price (r_X9_price_0 sA ((c_X9_laysPlanNo sA hi hp).eq ⟨by decide, fun c => absurd rfl c, fun _ => ⟨rfl, rfl⟩⟩))
theorem c_X9_price {p m a : Int} {t : Int → Int} (sA : shA w) (A : isAll h S) (iN : okS S ∧ cN S ≤ 200) (hp : 0 ≤ p ∧ p < 6) (P : planS (cN S) (cF S) (cL S) (cW S) S p m t) (ha : inR a) : CI mX9_price [vR 65, vI p, vI a] w h (fun x h' => priA S a m t x ∧ kM h h') := by
  obtain ⟨ok, hL⟩ := inv_ok iN
  refine e_X9_price (r_X9_price_0 sA ((c_X9_laysPlan sA A iN hp).mono ?_))
  rintro x h1 ⟨rfl, R, Q, km⟩
  obtain ⟨V, okw, kp⟩ := plan_V iN Q P
  have A1 := kM_all km A
  rw [V.1, A1 99 (by omega) (by omega)]
  refine ⟨by decide, fun _ => ⟨ha, fun d => (c_X9_waitsAll sA R ok V okw).eq ⟨⟨fun _ => rfl, ?_, ?_, ?_, ?_, ?_, ?_⟩, km⟩, fun d => (c_X9_waitsAll sA R ok V okw).eq ⟨⟨?_, fun _ => rfl, ?_, ?_, ?_, ?_, ?_⟩, km⟩, fun d => (c_X9_energy sA A1 iN.1 V okw).eq ⟨⟨?_, ?_, fun _ => rfl, ?_, ?_, ?_, ?_⟩, km⟩, fun d => (c_X9_liveEnergy sA A1 iN.1 V okw).eq ⟨⟨?_, ?_, ?_, fun _ => rfl, ?_, ?_, ?_⟩, km⟩, fun d => (c_X9_mostAnswered sA R ok V okw kp).mono (fun x h' z => by rw [z.2]; exact ⟨⟨by omega, by omega, by omega, by omega, fun _ => z.1, by omega, by omega⟩, km⟩), fun d => (c_X9_longestWait sA R ok V okw kp).eq ⟨⟨?_, ?_, ?_, ?_, ?_, fun _ => rfl, ?_⟩, km⟩, fun d => ⟨⟨?_, ?_, ?_, ?_, ?_, ?_, fun _ => rfl⟩, km⟩⟩, fun c => absurd c (by decide)⟩ <;> (intro z; omega)
theorem priA_one {a m x x' : Int} {t : Int → Int} (h1 : priA S a m t x) (h2 : priA S a m t x') : x = x' := by
  obtain ⟨a0, a1, a2, a3, a4, a5, a6⟩ := h1
  obtain ⟨b0, b1, b2, b3, b4, b5, b6⟩ := h2
  by_cases c0 : a = 0
  · rw [a0 c0, b0 c0]
  · by_cases c1 : a = 1
    · rw [a1 c1, b1 c1]
    · by_cases c2 : a = 2
      · rw [a2 c2, b2 c2]
      · by_cases c3 : a = 3
        · rw [a3 c3, b3 c3]
        · by_cases c4 : a = 4
          · exact mostA_one (a4 c4) (b4 c4)
          · by_cases c5 : a = 5
            · rw [a5 c5, b5 c5]
            · rw [a6 (by omega), b6 (by omega)]
theorem c_X9_answerNo {p k : Int} (sA : shA w) (hi : inR p) (hp : ¬ (0 ≤ p ∧ p < 6)) : CI mX9_answer [vR 65, vI p, vI k] w h (fun x h' => x = -1 ∧ h' = h) := e_X9_answer (r_X9_answer_0 sA ((c_X9_laysPlanNo sA hi hp).eq ⟨by decide, fun _ => ⟨rfl, rfl⟩, fun c => absurd rfl c⟩))
theorem c_X9_answer {p m k : Int} {t : Int → Int} (sA : shA w) (A : isAll h S) (iN : okS S ∧ cN S ≤ 200) (hp : 0 ≤ p ∧ p < 6) (P : planS (cN S) (cF S) (cL S) (cW S) S p m t) (hk : inR k) : CI mX9_answer [vR 65, vI p, vI k] w h (fun x h' => x = (if 0 ≤ k ∧ k < cN S then an m t (cF S k) else -1) ∧ kM h h') := by
  have n0 := cN_0 S
  have n2 := iN.2
  have l3 := iN.1.2.2.1
  refine e_X9_answer (r_X9_answer_0 sA ((c_X9_laysPlan sA A iN hp).mono ?_))
  rintro x h1 ⟨rfl, R, Q, km⟩
  obtain ⟨V, okw, kp⟩ := plan_V iN Q P
  rw [R.1]
  refine ⟨by decide, fun c => absurd c (by decide), fun _ => ⟨hk, by omega, fun c => ⟨by rw [if_neg (by omega)], km⟩, fun c => ⟨by omega, by omega, ?_⟩⟩⟩
  have b := (cFT_r iN.1 (k := k) (by omega) (by omega)).1
  rw [(R.2 k (by omega) (by omega)).1]
  exact (c_X9_answers sA V okw (by omega)).eq ⟨by rw [if_pos (by omega)], km⟩
theorem c_X9_proof {m k : Int} {t : Int → Int} (sA : shA w) (A : isAll h S) (iN : okS S ∧ cN S ≤ 200) (P : planS (cN S) (cF S) (cL S) (cW S) S 0 m t) (hk : inR k) : CI mX9_proof [vR 65, vI k] w h (fun x h' => prfA S k m t x ∧ kM h h') := by
  obtain ⟨ok, hL⟩ := inv_ok iN
  have n2 := iN.2
  refine e_X9_proof (r_X9_proof_0 sA ((c_X9_laysPlan sA A iN (by omega)).mono ?_))
  rintro x h1 ⟨rfl, R, Q, km⟩
  obtain ⟨V, okw, kp⟩ := plan_V iN Q P
  have m0 := okw.1
  rw [V.1]
  refine ⟨by decide, fun c => absurd c (by decide), fun _ => ⟨hk, by omega, fun c => ?_, fun c => ⟨Or.inl ⟨by omega, rfl⟩, km⟩⟩⟩
  have fs : fewS (cN S) (cF S) (cL S) m t := by
    rcases P with P | P | P
    · exact P.2
    · omega
    · omega
  have bt := okw.2.1 k (by omega) (by omega)
  have pvk : ∀ j, 0 ≤ j → j < k → t j ≤ pv t k := fun j j0 j1 => by
    unfold pv
    rw [if_neg (by omega)]
    by_cases e : j = k - 1
    · rw [e]; exact Int.le_refl _
    · have := okw.2.2 j (k - 1) j0 (by omega) (by omega); omega
  have iff : ∀ j, 0 ≤ j → j < cN S → cL S j = t k → (an m t (cF S j) = t k ↔ pv t k < cF S j) := by
    intro j j0 j1 jl
    have b := (ok.2.1 j j0 j1).1
    constructor
    · intro e
      apply Decidable.byContradiction
      intro z
      have k0 : ¬ k ≤ 0 := fun q => by unfold pv at z; rw [if_pos q] at z; omega
      unfold pv at z
      rw [if_neg k0] at z
      rcases an_ex m t (cF S j) m0.1 with ⟨e2, -⟩ | ⟨q, q0, q1, q2, q3, q4⟩
      · omega
      · rcases Int.lt_trichotomy q (k - 1) with y | y | y
        · have := okw.2.2 q k q0 (by omega) (by omega); omega
        · have := okw.2.2 q k q0 (by omega) (by omega); omega
        · have := q4 (k - 1) (by omega) y; omega
    · intro e
      rw [an_at (p := k) (by omega) (by omega) (fun i i0 i1 => by have := pvk i i0 i1; omega) (fun _ => by omega), if_pos (by omega)]
  obtain ⟨J, J1, J2⟩ : ∃ J, ((0 ≤ J ∧ J < cN S) ∧ pv t k < cF S J) ∧ cL S J = t k := by
    obtain ⟨a1, a2⟩ := fs.2.1 k (by omega) (by omega)
    rcases a2 with a2 | ⟨⟨J, J1, J2⟩, -⟩
    · exact absurd a2.1 a1
    · exact ⟨J, J1, J2⟩
  have key : ∀ (d : Nat) (j : Int), j + d = J → 0 ≤ j → (∀ i, 0 ≤ i → i < j → ¬ (pv t k < cF S i ∧ cL S i = t k)) → XI mX9_proof 28 [some (vR 65), some (vI k), none, some (vI j)] [] w h1 (fun x h' => prfA S k m t x ∧ kM h h') := by
    intro d
    have fin : ∀ j, 0 ≤ j → j < cN S → (pv t k < cF S j ∧ cL S j = t k) → (∀ i, 0 ≤ i → i < j → ¬ (pv t k < cF S i ∧ cL S i = t k)) → prfA S k m t j ∧ kM h h1 := fun j j0 j1 hj hn => ⟨Or.inr ⟨by omega, Or.inr ⟨⟨j0, j1, hj⟩, hn⟩⟩, km⟩
    induction d with
    | zero =>
      intro j hj j0 hn
      have ej : j = J := by omega
      subst ej
      obtain ⟨g1, g2, g3⟩ := R.2 j j0 J1.1.2
      have b := (ok.2.1 j j0 J1.1.2).1
      refine r_X9_proof_28 sA ?_
      rw [g1]
      refine ⟨by omega, by omega, (c_X9_answers sA V okw (by omega)).eq ?_⟩
      rw [V.2 k (by omega) (by omega), g2, J2, (iff j j0 J1.1.2 J2).mpr J1.2]
      exact ⟨by omega, by omega, by omega, by omega, fun z => absurd rfl z, fun _ => ⟨by omega, fun _ => fin j j0 J1.1.2 ⟨J1.2, J2⟩ hn, fun z => absurd rfl z⟩⟩
    | succ d ih =>
      intro j hj j0 hn
      have j1 : j < cN S := by have := J1.1.2; omega
      obtain ⟨g1, g2, g3⟩ := R.2 j j0 j1
      have b := (ok.2.1 j j0 j1).1
      have kj := kp j j0 j1
      have next : ¬ (pv t k < cF S j ∧ cL S j = t k) → XI mX9_proof 28 [some (vR 65), some (vI k), none, some (vI (j + 1))] [] w h1 (fun x h' => prfA S k m t x ∧ kM h h') := fun z => ih (j + 1) (by omega) (by omega) (fun i i0 i1 => by
        by_cases e : i = j
        · rw [e]; exact z
        · exact hn i i0 (by omega))
      refine r_X9_proof_28 sA ?_
      rw [g1]
      refine ⟨by omega, by omega, (c_X9_answers sA V okw (by omega)).eq ?_⟩
      rw [V.2 k (by omega) (by omega), g2]
      refine ⟨by omega, by omega, by omega, by omega, fun z => next (fun y => z ((iff j j0 j1 y.2).mpr y.1)), fun z => ⟨by omega, fun y => fin j j0 j1 ⟨(iff j j0 j1 y).mp z, y⟩ hn, fun y => next (fun x => y x.2)⟩⟩
  have := J1.1
  exact key J.toNat 0 (by omega) (by omega) (fun i i0 i1 => by omega)
theorem prfA_one {k m x x' : Int} {t : Int → Int} (h1 : prfA S k m t x) (h2 : prfA S k m t x') : x = x' := by
  rcases h1 with ⟨a1, a2⟩ | ⟨a1, a2⟩ <;> rcases h2 with ⟨b1, b2⟩ | ⟨b1, b2⟩
  · omega
  · exact absurd b1 a1
  · exact absurd a1 b1
  · exact fstP_one a2 b2
theorem c_X9_common {a b : Int} (sA : shA w) (ha : 0 < a ∧ a ≤ 1000) (hb : 0 < b ∧ b ≤ 1000) : CI mX9_common [vI a, vI b] w h (fun x h' => x = ((Nat.gcd a.toNat b.toNat : Nat) : Int) ∧ h' = h) := by
  have key : ∀ (d : Nat) (x y : Int), y ≤ d → 0 ≤ y → 0 ≤ x → x ≤ 1000 → y ≤ 1000 → ∀ z, z = ((Nat.gcd x.toNat y.toNat : Nat) : Int) → XI mX9_common 4 [none, none, some (vI x), some (vI y), none] [] w h (fun x h' => x = z ∧ h' = h) := by
    intro d
    induction d with
    | zero =>
      intro x y hy y0 x0 x1 y1 z hz
      have ey : y = 0 := by omega
      refine r_X9_common_4 sA ⟨by omega, fun _ => ⟨?_, rfl⟩, fun c => absurd ey c⟩
      rw [hz, ey, Int.toNat_zero, Nat.gcd_zero_right]; omega
    | succ d ih =>
      intro x y hy y0 x0 x1 y1 z hz
      refine r_X9_common_4 sA ⟨by omega, fun c => ⟨?_, rfl⟩, fun c => ⟨by omega, by omega, ?_⟩⟩
      · rw [hz, c, Int.toNat_zero, Nat.gcd_zero_right]; omega
      · have e0 := Int.emod_nonneg x (show y ≠ 0 by omega)
        have e1 := Int.emod_lt_of_pos x (show 0 < y by omega)
        refine ih y (x % y) (by omega) e0 y0 y1 (by omega) z ?_
        rw [hz, Nat.gcd_comm, Nat.gcd_rec, Nat.gcd_comm, Int.toNat_emod x0 y0]
  exact e_X9_common (r_X9_common_0 sA (key b.toNat a b (by omega) (by omega) (by omega) (by omega) (by omega) _ rfl))
theorem lc_gcd {a b : Int} (ha : 0 < a) (hb : 0 < b) : a / ((Nat.gcd a.toNat b.toNat : Nat) : Int) * b = lc a b := by
  obtain ⟨x, rfl⟩ : ∃ x : Nat, a = x := ⟨a.toNat, by omega⟩
  obtain ⟨y, rfl⟩ : ∃ y : Nat, b = y := ⟨b.toNat, by omega⟩
  unfold lc Nat.lcm
  rw [Int.toNat_natCast, Int.toNat_natCast, ← Nat.div_mul_right_comm (Nat.gcd_dvd_left x y)]
  simp
/-- HYPER -/
theorem c_X9_laysHyper (sA : shA w) (A : isAll h S) (ok : okS S) : CI mX9_laysHyper [vR 65] w h (fun x h' => kM h h' ∧ ((x = 1 ∧ rdE S ∧ h' 65 26 = hypC S ∧ h' 65 27 = cyc S (hypC S) (S 97).toNat) ∨ (x = 0 ∧ ¬ rdE S))) := by
  have l2 := ok.2.1
  have second : ∀ (H : Int), H = hyp S (S 97).toNat → (0 ≤ H ∧ H ≤ 360) → ∀ (d i : Nat) (h1 : AH), i + d = (S 97).toNat → h1 65 26 = H → h1 65 27 = cyc S H i → kM h h1 → XI mX9_laysHyper 87 [some (vR 65), some (vI i), none] [] w h1 (fun x h' => kM h h' ∧ ((x = 1 ∧ rdE S ∧ h' 65 26 = hypC S ∧ h' 65 27 = cyc S (hypC S) (S 97).toNat) ∨ (x = 0 ∧ ¬ rdE S))) := by
    intro H hH H0 d
    have hc : hypC S = H := by unfold hypC; rw [← hH, if_neg (by omega)]
    induction d with
    | zero =>
      intro i h1 hi e6 e7 km
      have ei : (S 97).toNat = i := by omega
      have cr := cyc_r ok H0 i (by omega)
      refine r_X9_laysHyper_87 sA ?_
      rw [kM_all km A 97 (by omega) (by omega), e6, e7]
      refine ⟨by omega, by omega, fun _ => ⟨by omega, fun c => ⟨km, Or.inr ⟨rfl, fun z => by have := z.1; omega⟩⟩, fun c => ⟨by omega, fun c2 => ⟨km, Or.inr ⟨rfl, fun z => ?_⟩⟩, fun c2 => ⟨km, Or.inl ⟨rfl, ⟨by omega, ?_⟩, by rw [hc], by rw [hc, ei]⟩⟩⟩⟩, fun c => absurd c (by omega)⟩
      · have := z.2; rw [← hH, ei] at this; omega
      · rw [← hH, ei]; omega
    | succ d ih =>
      intro i h1 hi e6 e7 km
      have A1 := kM_all km A
      have cr := cyc_r ok H0 i (by omega)
      have b := (ok.2.2.2.2.2.2 (i : Int) (by omega) (by omega)).2.1
      refine r_X9_laysHyper_87 sA ?_
      rw [A1 97 (by omega) (by omega), A1 (48 + i) (by omega) (by omega), e6, e7]
      have no : H ≤ 0 → kM h h1 ∧ (((0 : Int) = 1 ∧ rdE S ∧ H = hypC S ∧ cyc S H i = cyc S (hypC S) (S 97).toNat) ∨ ((0 : Int) = 0 ∧ ¬ rdE S)) := fun c => ⟨km, Or.inr ⟨rfl, fun z => by have := z.1; omega⟩⟩
      refine ⟨by omega, by omega, fun c => absurd c (by omega), fun _ => ⟨by omega, fun c => ⟨fun c2 => no c2, fun c2 => absurd c c2⟩, fun c => ⟨by omega, by omega, by omega, fun c2 => ⟨by omega, by omega, fun h20 e20 => ?_⟩, fun c2 h22 e22 => ?_⟩⟩⟩
      · refine ih (i + 1) h20 (by omega) (by rw [e20, st_slot _ _ _ _ (by decide)]; exact e6) ?_ (by rw [e20]; exact kM_st km (by omega))
        rw [e20, st_same, cyc, if_neg (by omega)]
      · refine ih (i + 1) h22 (by omega) (by rw [e22, st_slot _ _ _ _ (by decide)]; exact e6) ?_ (by rw [e22]; exact kM_st km (by omega))
        rw [e22, st_same, cyc, if_pos (by omega)]
  have first : ∀ (d i : Nat) (h1 : AH), i + d = (S 97).toNat → h1 65 26 = hyp S i → hyp S i ≠ -1 → kM h h1 → XI mX9_laysHyper 7 [some (vR 65), some (vI i), none] [] w h1 (fun x h' => kM h h' ∧ ((x = 1 ∧ rdE S ∧ h' 65 26 = hypC S ∧ h' 65 27 = cyc S (hypC S) (S 97).toNat) ∨ (x = 0 ∧ ¬ rdE S))) := by
    intro d
    induction d with
    | zero =>
      intro i h1 hi e6 hn km
      have ei : (S 97).toNat = i := by omega
      have hr := hyp_r S i
      refine r_X9_laysHyper_7 sA ?_
      rw [kM_all km A 97 (by omega) (by omega)]
      refine ⟨by omega, by omega, fun _ h3 e3 => ?_, fun c => absurd c (by omega)⟩
      exact second (hyp S i) (by rw [ei]) (by omega) (S 97).toNat 0 h3 (by omega) (by rw [e3, st_slot _ _ _ _ (by decide)]; exact e6) (by rw [e3, st_same]; rfl) (by rw [e3]; exact kM_st km (by omega))
    | succ d ih =>
      intro i h1 hi e6 hn km
      have A1 := kM_all km A
      have hr := hyp_r S i
      have b := (ok.2.2.2.2.2.2 (i : Int) (by omega) (by omega)).2.1
      have hs := hyp_s S i
      rw [if_neg hn] at hs
      -- behind a new hyper
      have cont : ∀ h13 : AH, 0 < S (48 + i) → h13 65 26 = hyp1 S i → kM h h13 → inR (hyp1 S i) → (inR (h13 65 26) ∧ ((h13 65 26 ≤ 360 → XI mX9_laysHyper 7 [some (vR 65), some (vI ((i : Int) + 1)), none] [] w h13 (fun x h' => kM h h' ∧ ((x = 1 ∧ rdE S ∧ h' 65 26 = hypC S ∧ h' 65 27 = cyc S (hypC S) (S 97).toNat) ∨ (x = 0 ∧ ¬ rdE S)))) ∧ (¬ h13 65 26 ≤ 360 → kM h h13 ∧ (((0 : Int) = 1 ∧ rdE S ∧ h13 65 26 = hypC S ∧ h13 65 27 = cyc S (hypC S) (S 97).toNat) ∨ ((0 : Int) = 0 ∧ ¬ rdE S))))) := by
        intro h13 hp e13 k13 ir
        rw [if_neg (show ¬ S (48 + i) ≤ 0 by omega)] at hs
        refine ⟨by rw [e13]; exact ir, fun c => ?_, fun c => ⟨k13, Or.inr ⟨rfl, fun z => ?_⟩⟩⟩
        · rw [e13] at c
          rw [if_pos c] at hs
          have pos : 0 ≤ hyp1 S i := by
            unfold hyp1
            split
            · omega
            · exact Int.natCast_nonneg _
          exact ih (i + 1) h13 (by omega) (by rw [e13, hs]) (by rw [hs]; omega) k13
        · rw [e13] at c
          rw [if_neg c] at hs
          have := hyp_stop S (i + 1) (S 97).toNat (by omega) hs
          have := z.1
          omega
      refine r_X9_laysHyper_7 sA ?_
      rw [A1 97 (by omega) (by omega), A1 (48 + i) (by omega) (by omega), e6]
      refine ⟨by omega, by omega, fun c => absurd c (by omega), fun _ => ⟨by omega, by omega, by omega, fun c => ⟨by omega, fun c2 => ?_, fun c2 h18 e18 => ?_⟩, fun c => ?_⟩⟩
      · refine (c_X9_common sA (by omega) (by omega)).eq ?_
        have gp : 0 < Nat.gcd (hyp S i).toNat (S (48 + i)).toNat := Nat.gcd_pos_of_pos_right _ (by omega)
        have gl := Nat.gcd_le_right (hyp S i).toNat (show 0 < (S (48 + i)).toNat by omega)
        refine ⟨by omega, by omega, fun h13 e13 => ?_⟩
        rw [lc_gcd (by omega) (by omega)] at e13
        have e1 : hyp1 S i = lc (hyp S i) (S (48 + i)) := by unfold hyp1; rw [if_neg c2]
        have lr := lc_r (a := hyp S i) (b := S (48 + i)) (by omega) (by omega)
        have lp := lc_pos (a := hyp S i) (b := S (48 + i)) (by omega) (by omega)
        exact cont h13 (by omega) (by rw [e13, st_same, e1]) (by rw [e13]; exact kM_st km (by omega)) (by rw [e1]; omega)
      · have e1 : hyp1 S i = S (48 + i) := by unfold hyp1; rw [if_pos c2]
        exact cont h18 (by omega) (by rw [e18, st_same, e1]) (by rw [e18]; exact kM_st km (by omega)) (by rw [e1]; omega)
      · rw [if_pos (show S (48 + i) ≤ 0 by omega)] at hs
        exact ih (i + 1) h1 (by omega) (by rw [e6, hs]) (by rw [hs]; exact hn) km
  refine e_X9_laysHyper (r_X9_laysHyper_0 sA fun h1 e1 => ?_)
  exact first (S 97).toNat 0 h1 (by omega) (by rw [e1, st_same]; rfl) (by show (0 : Int) ≠ -1; decide) (by rw [e1]; exact kM_st (kM_rfl h) (by omega))
theorem tmod_fix {a p : Int} (hp : 0 < p) : (0 ≤ a.tmod p → a.tmod p = a % p) ∧ (¬ 0 ≤ a.tmod p → a.tmod p + p = a % p) := by
  have e := Int.tmod_eq_emod (a := a) (b := p)
  have e0 := Int.emod_nonneg a (show p ≠ 0 by omega)
  have e1 := Int.emod_lt_of_pos a hp
  by_cases c : 0 ≤ a ∨ p ∣ a
  · rw [if_pos c] at e
    exact ⟨fun _ => by omega, fun z => by omega⟩
  · rw [if_neg c] at e
    exact ⟨fun z => by omega, fun _ => by omega⟩
theorem c_X9_nextLatest {t : Int} (sA : shA w) (A : isAll h S) (ok : okS S) (ht : 0 ≤ t ∧ t ≤ 100000) : CI mX9_nextLatest [vR 65, vI t] w h (fun x h' => x = nl S t ∧ h' = h) := by
  have l2 := ok.2.1
  have key : ∀ (d i : Nat), i + d = (S 97).toNat → (-1 ≤ nlF S t i ∧ nlF S t i ≤ 200000) → XI mX9_nextLatest 4 [some (vR 65), some (vI t), some (vI (nlF S t i)), some (vI i), none, none, none, none] [] w h (fun x h' => x = nl S t ∧ h' = h) := by
    intro d
    induction d with
    | zero =>
      intro i hi nr
      refine r_X9_nextLatest_4 sA ?_
      rw [A 97 (by omega) (by omega)]
      refine ⟨by omega, by omega, fun _ => ⟨?_, rfl⟩, fun c => absurd c (by omega)⟩
      unfold nl
      rw [show (S 97).toNat = i by omega]
    | succ d ih =>
      intro i hi nr
      obtain ⟨b1, b2, b3⟩ := ok.2.2.2.2.2.2 (i : Int) (by omega) (by omega)
      have sr := slk_r ok b1.1 b1.2
      have I := ih (i + 1) (by omega)
      refine r_X9_nextLatest_4 sA ?_
      rw [A 97 (by omega) (by omega), A (48 + i) (by omega) (by omega), A (72 + i) (by omega) (by omega), A (24 + i) (by omega) (by omega)]
      refine ⟨by omega, by omega, fun c => absurd c (by omega), fun _ => ⟨by omega, by omega, by omega, fun c => ⟨by omega, by omega, by omega, by omega, fun y ey => ?_⟩, fun c => ?_⟩⟩
      · have pp : 0 < S (48 + i) := by omega
        have tf := tmod_fix (a := S (72 + i) - (t + 1)) pp
        rw [← ey] at tf
        have m0 := Int.emod_nonneg (S (72 + i) - (t + 1)) (show S (48 + i) ≠ 0 by omega)
        have m1 := Int.emod_lt_of_pos (S (72 + i) - (t + 1)) pp
        have ev : nlV S i t = t + 1 + (S (72 + i) - (t + 1)) % S (48 + i) + slk S (S (24 + i)) := rfl
        rw [nlF, if_neg (by omega)] at I
        refine ⟨?_, fun c2 => ⟨by omega, by omega, (c_X9_slack sA A ok b1).eq ?_⟩, fun c2 => ⟨by omega, by omega, (c_X9_slack sA A ok b1).eq ?_⟩⟩
        · by_cases z : 0 ≤ y
          · have := tf.1 z; omega
          · have := tf.2 z; omega
        · have ez : t + 1 + y + slk S (S (24 + i)) = nlV S i t := by rw [ev, tf.1 c2]
          rw [ez]
          refine ⟨by omega, fun c3 => ?_, fun c3 => ⟨by omega, fun c4 => ?_, fun c4 => ?_⟩⟩
          · rw [if_pos (Or.inl c3)] at I; exact I (by omega)
          · rw [if_neg (by omega)] at I; exact I nr
          · rw [if_pos (by omega)] at I; exact I (by omega)
        · intro y2 ey2
          have ez : y2 = nlV S i t := by rw [ey2, ev, tf.2 c2]
          rw [ez]
          refine ⟨by omega, fun c3 => ?_, fun c3 => ⟨by omega, fun c4 => ?_, fun c4 => ?_⟩⟩
          · rw [if_pos (Or.inl c3)] at I; exact I (by omega)
          · rw [if_neg (by omega)] at I; exact I nr
          · rw [if_pos (by omega)] at I; exact I (by omega)
      · rw [nlF, if_pos (by omega)] at I
        exact I nr
  exact e_X9_nextLatest (r_X9_nextLatest_0 sA (key (S 97).toNat 0 (by omega) (by show -1 ≤ (-1 : Int) ∧ (-1 : Int) ≤ 200000; omega)))
end
