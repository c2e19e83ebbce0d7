/-! answers, as they are meant -/
def fltA (h : AH) (a : Int) : Int := if a = 0 then h 2 1 else if a = 1 then h 2 2 else -1
def cntQ (S g : Int → Int) (n a : Int) : Int := if a = 0 then S 96 else if a = 1 then S 97 else if a = 2 then cN S else if a = 3 then S 98 else if a = 4 then S 99 else if a = 5 then S 100 else if a = 6 then g 9 else if a = 7 then g 10 else if a = 8 then n else -1
def kndA (S : Int → Int) (k a : Int) : Int := if ¬ (0 ≤ k ∧ k < S 96) then -1 else if a = 0 then S k else if a = 1 then slk S k else if a = 2 then wgt S k else if a = 3 then S (8 + k) else if a = 4 then S (16 + k) else if a = 5 then cntT S k (S 97).toNat else if a = 6 then heir S k (S 96).toNat else -1
def calA (S : Int → Int) (k a : Int) : Int := if ¬ (0 ≤ k ∧ k < cN S) then -1 else if a = 0 then cF S k else if a = 1 then cL S k else if a = 2 then cW S k else if a = 3 then cT S k else -1
def plA (S : Int → Int) (p x : Int) (ans : Int → (Int → Int) → Int → Prop) : Prop := (¬ (0 ≤ p ∧ p < 6) ∧ x = -1) ∨ ((0 ≤ p ∧ p < 6) ∧ ∃ m t, planS (cN S) (cF S) (cL S) (cW S) S p m t ∧ m ≤ cN S ∧ ans m t x)
def priA (S : Int → Int) (a m : Int) (t : Int → Int) (x : Int) : Prop := (a = 0 → x = S 99 * m + wts (cF S) (cW S) m t (cN S).toNat) ∧ (a = 1 → x = wts (cF S) (cW S) m t (cN S).toNat) ∧ (a = 2 → x = enI (S 99) (S 100) t m.toNat) ∧ (a = 3 → x = lvE (S 99) (S 100) (S 98) m t) ∧ (a = 4 → mostA (cF S) m t (cN S) x) ∧ (a = 5 → x = lwt (cF S) m t (cN S).toNat) ∧ ((a < 0 ∨ 5 < a) → x = -1)
def prfA (S : Int → Int) (k m : Int) (t : Int → Int) (x : Int) : Prop := (¬ (0 ≤ k ∧ k < m) ∧ x = -1) ∨ ((0 ≤ k ∧ k < m) ∧ fstP (fun j => pv t k < cF S j ∧ cL S j = t k) (cN S) x)
section
variable {w : WS} {h : AH} {S g F L W At : Int → Int}
theorem c_X8_fault {a : Int} (sA : shA w) (ha : inR a) : CI mX8_fault [vR 1, vI a] w h (fun x h' => x = fltA h a ∧ h' = h) := by
  refine e_X8_fault (r_X8_fault_0 sA ⟨ha, fun c => ⟨?_, rfl⟩, fun c => ⟨?_, rfl⟩, fun c => ⟨?_, rfl⟩⟩)
  · rw [fltA, if_pos c]
  · rw [fltA, if_neg (by omega), if_pos c]
  · rw [fltA, if_neg (by omega), if_neg (by omega)]
theorem c_X8_count {a : Int} (sA : shA w) (I : invX w h S g F L W At) (ha : inR a) : CI mX8_count [vR 1, vI a] w h (fun x h' => x = cntQ S g (h 3 1) a ∧ h' = h) := by
  obtain ⟨iT, iS, iC, iO, iP, iR, iH, iN, iK⟩ := id I
  have hs := fa_so sA iS
  have s15 := hs.1
  obtain ⟨y1, y2, y3, y4, y5, y6, y7⟩ := iS.2
  obtain ⟨z1, z2, z3, z4, z5, z6, z7, z8, z9, -⟩ := iH
  have c4 := iC.1.1.1
  refine e_X8_count (r_X8_count_0 sA ⟨ha, fun c => ⟨s15, ?_, rfl⟩, fun c => ⟨s15, ?_, rfl⟩, fun c => ⟨?_, rfl⟩, fun c => ⟨s15, ?_, rfl⟩, fun c => ⟨s15, ?_, rfl⟩, fun c => ⟨s15, ?_, rfl⟩, fun c => ⟨?_, rfl⟩, fun c => ⟨?_, rfl⟩, fun c => ⟨?_, rfl⟩, fun c => ⟨?_, rfl⟩⟩)
  · rw [cntQ, if_pos c]; exact y1
  · rw [cntQ, if_neg (by omega), if_pos c]; exact y2
  · rw [cntQ, if_neg (by omega), if_neg (by omega), if_pos c]; exact c4
  · rw [cntQ, if_neg (by omega), if_neg (by omega), if_neg (by omega), if_pos c]; exact y3
  · rw [cntQ, if_neg (by omega), if_neg (by omega), if_neg (by omega), if_neg (by omega), if_pos c]; exact y4
  · rw [cntQ, if_neg (by omega), if_neg (by omega), if_neg (by omega), if_neg (by omega), if_neg (by omega), if_pos c]; exact y5
  · rw [cntQ, if_neg (by omega), if_neg (by omega), if_neg (by omega), if_neg (by omega), if_neg (by omega), if_neg (by omega), if_pos c]; exact z8
  · rw [cntQ, if_neg (by omega), if_neg (by omega), if_neg (by omega), if_neg (by omega), if_neg (by omega), if_neg (by omega), if_neg (by omega), if_pos c]; exact z9
  · rw [cntQ, if_neg (by omega), if_neg (by omega), if_neg (by omega), if_neg (by omega), if_neg (by omega), if_neg (by omega), if_neg (by omega), if_neg (by omega), if_pos c]
  · rw [cntQ, if_neg (by omega), if_neg (by omega), if_neg (by omega), if_neg (by omega), if_neg (by omega), if_neg (by omega), if_neg (by omega), if_neg (by omega), if_neg (by omega)]
theorem c_X8_kind {k a : Int} (sA : shA w) (I : invX w h S g F L W At) (hk : inR k) (ha : inR a) : CI mX8_kind [vR 1, vI k, vI a] w h (fun x h' => x = kndA S k a ∧ h' = h) := by
  obtain ⟨iT, iS, iC, iO, iP, iR, iH, iN, iK⟩ := id I
  have hs := fa_so sA iS
  have s15 := hs.1
  have ok := iN.1
  have h96 := ok.1
  obtain ⟨y1, y2, y3, y4, y5, y6, y7⟩ := id iS.2
  refine e_X8_kind (r_X8_kind_0 sA ?_)
  rw [y1]
  refine ⟨s15, hk, by omega, fun c => ⟨ha, fun d => ⟨hs, by omega, ?_, rfl⟩, fun d => (c_X5_slackOf hs iS.2 ok (Or.inr c)).eq ⟨?_, rfl⟩, fun d => (c_X5_weightOf hs iS.2 ok (Or.inr c)).eq ⟨?_, rfl⟩, fun d => ⟨hs, by omega, ?_, rfl⟩, fun d => ⟨hs, by omega, ?_, rfl⟩, fun d => (c_X5_timersOf hs iS.2 ok hk).eq ⟨?_, rfl⟩, fun d => (c_X5_heirsOf hs iS.2 ok hk).eq ⟨?_, rfl⟩, fun d => ⟨?_, rfl⟩⟩, fun c => ⟨?_, rfl⟩⟩
  · rw [if_pos c, kndA, if_neg (fun q => q c), if_pos d]; exact (y6 k c.1 c.2).1
  · rw [kndA, if_neg (fun q => q c), if_neg (by omega), if_pos d]
  · rw [kndA, if_neg (fun q => q c), if_neg (by omega), if_neg (by omega), if_pos d]
  · rw [if_pos c, kndA, if_neg (fun q => q c), if_neg (by omega), if_neg (by omega), if_neg (by omega), if_pos d]; exact (y6 k c.1 c.2).2.1
  · rw [if_pos c, kndA, if_neg (fun q => q c), if_neg (by omega), if_neg (by omega), if_neg (by omega), if_neg (by omega), if_pos d]; exact (y6 k c.1 c.2).2.2
  · rw [kndA, if_neg (fun q => q c), if_neg (by omega), if_neg (by omega), if_neg (by omega), if_neg (by omega), if_neg (by omega), if_pos d]
  · rw [kndA, if_neg (fun q => q c), if_neg (by omega), if_neg (by omega), if_neg (by omega), if_neg (by omega), if_neg (by omega), if_neg (by omega), if_pos d]
  · rw [kndA, if_neg (fun q => q c), if_neg (by omega), if_neg (by omega), if_neg (by omega), if_neg (by omega), if_neg (by omega), if_neg (by omega), if_neg (by omega)]
  · rw [kndA, if_pos c]
theorem c_X8_call {k a : Int} (sA : shA w) (I : invX w h S g F L W At) (hk : inR k) (ha : inR a) : CI mX8_call [vR 1, vI k, vI a] w h (fun x h' => x = calA S k a ∧ h' = h) := by
  obtain ⟨iT, iS, iC, iO, iP, iR, iH, iN, iK⟩ := id I
  have n0 := cN_0 S
  have c4 := iC.1.1
  refine e_X8_call (r_X8_call_0 sA ?_)
  unfold szC
  rw [c4.1]
  refine ⟨hk, ⟨n0, c4.2⟩, fun c => ⟨ha, fun d => ⟨?_, rfl⟩, fun d => ⟨?_, rfl⟩, fun d => ⟨?_, rfl⟩, fun d => ⟨?_, rfl⟩, fun d => ⟨?_, rfl⟩⟩, fun c => ⟨?_, rfl⟩⟩
  · rw [if_pos c, calA, if_neg (fun q => q c), if_pos d]; exact (iC.1.2 k c.1 c.2).1
  · rw [if_pos c, calA, if_neg (fun q => q c), if_neg (by omega), if_pos d]; exact (iC.1.2 k c.1 c.2).2.1
  · rw [if_pos c, calA, if_neg (fun q => q c), if_neg (by omega), if_neg (by omega), if_pos d]; exact (iC.1.2 k c.1 c.2).2.2
  · rw [if_pos c, calA, if_neg (fun q => q c), if_neg (by omega), if_neg (by omega), if_neg (by omega), if_pos d]; exact iC.2 k c.1 c.2
  · rw [calA, if_neg (fun q => q c), if_neg (by omega), if_neg (by omega), if_neg (by omega), if_neg (by omega)]
  · rw [calA, if_pos c]
/-- what a plan's row gives to the methods that ask it -/
theorem plan_use {p v : Int} (sA : shA w) (I : invX w h S g F L W At) (hv : v = 27 + 2 * p) (hp : 0 ≤ p ∧ p < 6) (hS : planS (cN S) (cF S) (cL S) (cW S) S p (h v 1) (h (v + 1))) (hm : h v 1 ≤ cN S) : shWakes w v ∧ isW w h v (h v 1) (h (v + 1)) ∧ okW (h v 1) (h (v + 1)) ∧ kept (cN S) (cF S) (cL S) (h v 1) (h (v + 1)) ∧ szW w h v := by
  obtain ⟨iT, iS, iC, iO, iP, iR, iH, iN, iK⟩ := id I
  obtain ⟨ok, hL⟩ := inv_ok iN
  have hw := fa_plans sA p hp.1 hp.2
  have e : (28 : Int) + 2 * p = v + 1 := by omega
  rw [← hv, e] at hw
  have okw := planS_okW ok iN.1 hL hS
  have n2 := iN.2
  exact ⟨hw.1, ⟨⟨rfl, okw.1.1, by rw [hw.2]; omega⟩, fun k _ _ => rfl⟩, okw, planS_kept ok iN.1 hL hS, okw.1.1, by rw [hw.2]; omega⟩
theorem c_X8_wakes {p : Int} (sA : shA w) (I : invX w h S g F L W At) (hp : inR p) : CI mX8_wakes [vR 1, vI p] w h (fun x h' => plA S p x (fun m _ x => x = m) ∧ invX w h' S g F L W At ∧ frX h h') := by
  refine e_X8_wakes (r_X8_wakes_0 sA ((c_X8_planOf sA I hp).mono ?_))
  rintro v h1 ⟨I1, f1, q⟩
  rcases q with ⟨q1, q2⟩ | ⟨q1, q2, q3, q4⟩
  · exact ⟨fun c => absurd q1 c, fun _ => ⟨Or.inl ⟨q2, rfl⟩, I1, f1⟩⟩
  · obtain ⟨u1, u2, u3, u4, u5⟩ := plan_use sA I1 q1 q2 q3 q4
    exact ⟨fun _ => ⟨u1.1, Or.inr ⟨q2, _, _, q3, q4, rfl⟩, I1, f1⟩, fun c => absurd c (by omega)⟩
theorem c_X8_wake {p k : Int} (sA : shA w) (I : invX w h S g F L W At) (hp : inR p) (hk : inR k) : CI mX8_wake [vR 1, vI p, vI k] w h (fun x h' => plA S p x (fun m t x => x = if 0 ≤ k ∧ k < m then t k else -1) ∧ invX w h' S g F L W At ∧ frX h h') := by
  refine e_X8_wake (r_X8_wake_0 sA ((c_X8_planOf sA I hp).mono ?_))
  rintro v h1 ⟨I1, f1, q⟩
  rcases q with ⟨q1, q2⟩ | ⟨q1, q2, q3, q4⟩
  · exact ⟨fun c => absurd q1 c, fun _ => ⟨Or.inl ⟨q2, rfl⟩, I1, f1⟩⟩
  · obtain ⟨u1, u2, u3, u4, u5⟩ := plan_use sA I1 q1 q2 q3 q4
    exact ⟨fun _ => ⟨u1.1, u1, hk, u5, Or.inr ⟨q2, _, _, q3, q4, rfl⟩, I1, f1⟩, fun c => absurd c (by omega)⟩
theorem c_X8_price {p a : Int} (sA : shA w) (I : invX w h S g F L W At) (hp : inR p) (ha : inR a) : CI mX8_price [vR 1, vI p, vI a] w h (fun x h' => plA S p x (priA S a) ∧ invX w h' S g F L W At ∧ frX h h') := by
  refine e_X8_price (r_X8_price_0 sA ((c_X8_planOf sA I hp).mono ?_))
  rintro v h1 ⟨I1, f1, q⟩
  rcases q with ⟨q1, q2⟩ | ⟨q1, q2, q3, q4⟩
  · exact ⟨fun c => absurd q1 c, fun _ => ⟨Or.inl ⟨q2, rfl⟩, I1, f1⟩⟩
  · obtain ⟨u1, u2, u3, u4, u5⟩ := plan_use sA I1 q1 q2 q3 q4
    obtain ⟨iT, iS, iC, iO, iP, iR, iH, iN, iK⟩ := id I1
    obtain ⟨ok, hL⟩ := inv_ok iN
    have s15 := (fa_so sA iS).1
    obtain ⟨y1, y2, y3, y4, y5, -⟩ := iS.2
    have k3 := iN.1.2.2.1
    have k4 := iN.1.2.2.2.1
    have k5 := iN.1.2.2.2.2.1
    have fin : ∀ x, priA S a (h1 v 1) (h1 (v + 1)) x → plA S p x (priA S a) ∧ invX w h1 S g F L W At ∧ frX h h1 := fun x hx => ⟨Or.inr ⟨q2, _, _, q3, q4, hx⟩, I1, f1⟩
    rw [y3, y4, y5]
    refine ⟨fun _ => ⟨ha, fun d => ⟨s15, u1.1, (c_X7_costFor u1 u2 u3 (fa_calls21 sA) iC.1 ok u4).eq (fin _ ⟨fun _ => rfl, ?_, ?_, ?_, ?_, ?_, ?_⟩)⟩, fun d => ⟨u1.1, (c_X7_waitsOf u1 u2 u3 (fa_calls21 sA) iC.1 ok u4).eq (fin _ ⟨?_, fun _ => rfl, ?_, ?_, ?_, ?_, ?_⟩)⟩, fun d => ⟨s15, u1.1, (c_X7_energy u1 u2 u3 (by omega) (by omega)).eq (fin _ ⟨?_, ?_, fun _ => rfl, ?_, ?_, ?_, ?_⟩)⟩, fun d => ⟨s15, u1.1, (c_X7_liveEnergy u1 u2 u3 (by omega) (by omega) (by omega)).eq (fin _ ⟨?_, ?_, ?_, fun _ => rfl, ?_, ?_, ?_⟩)⟩, fun d => ⟨u1.1, (c_X7_mostAnswered u1 u2 u3 (fa_calls21 sA) iC.1 ok u4).mono (fun x h' z => by rw [z.2]; exact fin x ⟨by omega, by omega, by omega, by omega, fun _ => z.1, by omega, by omega⟩)⟩, fun d => ⟨u1.1, (c_X7_longestWait u1 u2 u3 (fa_calls21 sA) iC.1 ok u4).eq (fin _ ⟨?_, ?_, ?_, ?_, ?_, fun _ => rfl, ?_⟩)⟩, fun d => fin _ ⟨?_, ?_, ?_, ?_, ?_, ?_, fun _ => rfl⟩⟩, fun c => absurd c (by omega)⟩ <;> (intro z; omega)
theorem c_X8_proof {k : Int} (sA : shA w) (I : invX w h S g F L W At) (hk : inR k) : CI mX8_proof [vR 1, vI k] w h (fun x h' => plA S 0 x (prfA S k) ∧ invX w h' S g F L W At ∧ frX h h') := by
  refine e_X8_proof (r_X8_proof_0 sA ((c_X8_planOf sA I (by decide)).mono ?_))
  rintro v h1 ⟨I1, f1, q⟩
  rcases q with ⟨q1, q2⟩ | ⟨q1, q2, q3, q4⟩
  · exact absurd ⟨by decide, by decide⟩ q2
  · obtain ⟨u1, u2, u3, u4, u5⟩ := plan_use sA I1 q1 q2 q3 q4
    obtain ⟨iT, iS, iC, iO, iP, iR, iH, iN, iK⟩ := id I1
    obtain ⟨ok, hL⟩ := inv_ok iN
    refine ⟨fun c => absurd c (by omega), fun _ => ⟨u1.1, u1, hk, u5, fun c => ⟨by omega, ?_⟩, fun c => ⟨Or.inr ⟨q2, _, _, q3, q4, Or.inl ⟨c, rfl⟩⟩, I1, f1⟩⟩⟩
    have e1 : (if 0 ≤ k - 1 ∧ k - 1 < h1 v 1 then h1 (v + 1) (k - 1) else -1) = pv (h1 (v + 1)) k := by
      unfold pv
      by_cases z : k ≤ 0
      · rw [if_neg (by omega), if_pos z]
      · rw [if_pos (by omega), if_neg z]
    rw [if_pos c, e1]
    have b := u3.2.1 k c.1 c.2
    have pb : -1 ≤ pv (h1 (v + 1)) k ∧ pv (h1 (v + 1)) k ≤ 300 := by
      unfold pv
      split
      · omega
      · have := u3.2.1 (k - 1) (by omega) (by omega); omega
    refine (c_X0_firstDueAt (fa_calls21 sA) iC.1 ok (by omega) (by omega)).mono ?_
    rintro x h' ⟨z1, rfl⟩
    exact ⟨Or.inr ⟨q2, _, _, q3, q4, Or.inr ⟨c, z1⟩⟩, I1, f1⟩
theorem c_X8_answer {p k : Int} (sA : shA w) (I : invX w h S g F L W At) (hp : inR p) (hk : inR k) : CI mX8_answer [vR 1, vI p, vI k] w h (fun x h' => plA S p x (fun m t x => x = if 0 ≤ k ∧ k < cN S then an m t (cF S k) else -1) ∧ invX w h' S g F L W At ∧ frX h h') := by
  refine e_X8_answer (r_X8_answer_0 sA ((c_X8_planOf sA I hp).mono ?_))
  rintro v h1 ⟨I1, f1, q⟩
  rcases q with ⟨q1, q2⟩ | ⟨q1, q2, q3, q4⟩
  · exact ⟨fun _ => ⟨Or.inl ⟨q2, rfl⟩, I1, f1⟩, fun c => absurd q1 c⟩
  · obtain ⟨u1, u2, u3, u4, u5⟩ := plan_use sA I1 q1 q2 q3 q4
    obtain ⟨iT, iS, iC, iO, iP, iR, iH, iN, iK⟩ := id I1
    have n0 := cN_0 S
    have c4 := iC.1.1
    unfold szC
    rw [c4.1]
    refine ⟨fun c => absurd c (by omega), fun _ => ⟨hk, ⟨n0, c4.2⟩, fun c => ⟨u1.1, ?_⟩, fun c => ⟨Or.inr ⟨q2, _, _, q3, q4, (if_neg c).symm⟩, I1, f1⟩⟩⟩
    have e1 : h1 (21 + 1) k = cF S k := (iC.1.2 k c.1 c.2).1
    have b := (cFT_r iN.1 c.1 c.2).1
    have k3 := iN.1.2.2.1
    rw [if_pos c, e1]
    refine (c_X7_firstFrom u1 u2 u3 (by omega)).eq ⟨Or.inr ⟨q2, _, _, q3, q4, (if_pos c).symm⟩, I1, f1⟩
end
