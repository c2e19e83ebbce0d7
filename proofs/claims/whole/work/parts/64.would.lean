/-! another slack -/
abbrev sl (S : Int → Int) (k s : Int) : Int → Int := up S (8 + k) s
theorem rowT_cg {S S' : Int → Int} (u : Int) : ∀ n : Nat, (n : Int) ≤ 24 → (∀ j, 24 ≤ j → S' j = S j) → rowT S' u n = rowT S u n := by
  intro n
  induction n with
  | zero => intro _ _; rfl
  | succ n ih =>
    intro hn h
    rw [rowT, rowT, ih (by omega) h]
    have e : calS S' (n : Int) u ↔ calS S (n : Int) u := by unfold calS; rw [h (72 + n) (by omega), h (48 + n) (by omega)]
    by_cases c : calS S (n : Int) u
    · rw [if_pos c, if_pos (e.mpr c)]
    · rw [if_neg c, if_neg (fun q => c (e.mp q))]
theorem cls_cg {S S' : Int → Int} (hT : S 97 ≤ 24) (h : ∀ j, 24 ≤ j → S' j = S j) : ∀ m : Nat, cls S' m = cls S m := by
  intro m
  induction m with
  | zero => rfl
  | succ m ih => rw [cls, cls, ih, h 97 (by omega), rowT_cg _ _ (by omega) h]
section
variable {w : WS} {h : AH} {S g F L W At : Int → Int} {k s : Int}
theorem sl_hi (hk : k < 8) : ∀ j, 24 ≤ j → sl S k s j = S j := fun j hj => up_o _ _ (by omega)
theorem sl_cls (ok : okS S) (hk : k < 8) : clsA (sl S k s) = clsA S := by
  unfold clsA
  rw [sl_hi hk 98 (by omega)]
  exact cls_cg (by have := ok.2.1; omega) (sl_hi hk) _
theorem sl_c (ok : okS S) (hk : k < 8) : cN (sl S k s) = cN S ∧ cF (sl S k s) = cF S ∧ cT (sl S k s) = cT S := by
  refine ⟨?_, ?_, ?_⟩
  · unfold cN; rw [sl_cls ok hk]
  · funext j; unfold cF; rw [sl_cls ok hk]
  · funext j; unfold cT; rw [sl_cls ok hk]
theorem sl_eU (ok : okS S) (hk : k < 8) (u : Int) : eU (sl S k s) u = eU S u := by
  unfold eU
  rw [sl_hi hk 98 (by omega), cls_cg (by have := ok.2.1; omega) (sl_hi hk)]
theorem sl_ok (ok : okS S) (hk : 0 ≤ k ∧ k < S 96) (hs : -1 ≤ s ∧ s ≤ 99) : okS (sl S k s) := by
  obtain ⟨k1, k2, k3, k4, k5, k6, k7⟩ := ok
  have hi := sl_hi (S := S) (s := s) (show k < 8 by omega)
  refine ⟨by rw [hi _ (by omega)]; exact k1, by rw [hi _ (by omega)]; exact k2, by rw [hi _ (by omega)]; exact k3, by rw [hi _ (by omega)]; exact k4, by rw [hi _ (by omega)]; exact k5, fun j j0 j1 => ?_, fun t t0 t1 => ?_⟩
  · rw [hi 96 (by omega)] at j1
    have q := k6 j j0 j1
    refine ⟨by rw [sl, up_o _ _ (by omega)]; exact q.1, ?_, by rw [sl, up_o _ _ (by omega)]; exact q.2.2⟩
    by_cases e : j = k
    · rw [e, sl, up_s]; exact hs
    · rw [sl, up_o _ _ (by omega)]; exact q.2.1
  · rw [hi 97 (by omega)] at t1
    rw [hi 96 (by omega), hi _ (by omega), hi _ (by omega), hi _ (by omega)]
    exact k7 t t0 t1
theorem isS_sl {h' : AH} {o : Int} (hS : isS h o S) (ok : okS S) (hk : 0 ≤ k ∧ k < S 96) (e : h' = st h (o + 3) k s) : isS h' o (sl S k s) := by
  obtain ⟨y1, y2, y3, y4, y5, y6, y7⟩ := hS
  have k1 := ok.1
  have hi := sl_hi (S := S) (s := s) (show k < 8 by omega)
  have fo : ∀ b, b ≠ o + 3 → h' b = h b := fun b hb => by rw [e, st_row _ _ _ hb]
  rw [isS, hi 96 (by omega), hi 97 (by omega), hi 98 (by omega), hi 99 (by omega), hi 100 (by omega), fo o (by omega), fo (o + 2) (by omega), fo (o + 4) (by omega), fo (o + 5) (by omega), fo (o + 6) (by omega), fo (o + 7) (by omega)]
  refine ⟨y1, y2, y3, y4, y5, fun j j0 j1 => ?_, fun t t0 t1 => ?_⟩
  · have q := y6 j j0 j1
    refine ⟨by rw [sl, up_o _ _ (by omega)]; exact q.1, ?_, by rw [sl, up_o _ _ (by omega)]; exact q.2.2⟩
    by_cases z : j = k
    · rw [z, sl, up_s, e, st_same]
    · rw [sl, up_o _ _ (by omega), e, st_slot _ _ _ _ z]; exact q.2.1
  · rw [hi _ (by omega), hi _ (by omega), hi _ (by omega)]
    exact y7 t t0 t1
/-- what would be told -/
def wldS (S : Int → Int) (a x : Int) : Prop :=
  (a = 0 → ∃ m t, planS (cN S) (cF S) (cL S) (cW S) S 0 m t ∧ m ≤ cN S ∧ x = m) ∧ (a = 1 → ∃ m t, planS (cN S) (cF S) (cL S) (cW S) S 1 m t ∧ m ≤ cN S ∧ x = S 99 * m + wts (cF S) (cW S) m t (cN S).toNat) ∧ (a = 2 → ∃ m t, planS (cN S) (cF S) (cL S) (cW S) S 2 m t ∧ m ≤ cN S ∧ x = enI (S 99) (S 100) t m.toNat) ∧ (a = 3 → (rdE S ∧ ∃ (m : Nat) (p : Int), roundS S (hypC S) p m ∧ x = m) ∨ (¬ rdE S ∧ x = -1))
/-- the world behind a supposing -/
theorem sup_inv {h' : AH} (I : invX w h S g F L W At) (f : ∀ b, (b < 40 ∨ 43 < b) → b ≠ 57 → b ≠ 58 → b ≠ 60 → b ≠ 61 → b ≠ 62 → b ≠ 63 → b ≠ 64 → b ≠ h 1 2 + 3 → h' b = h b) (hS : isS h' (h 1 2) S) : invX w h' S g F L W At ∧ frX h h' := by
  obtain ⟨iT, iS, iC, iO, iP, iR, iH, iN, iK⟩ := id I
  have ho := xS_o iS
  have f2 : ∀ b, (b < 5 ∨ 20 < b) → (b < 40 ∨ 43 < b) → b ≠ 57 → b ≠ 58 → b < 60 ∨ 64 < b → h' b = h b := fun b b1 b2 b3 b4 b5 => f b b2 b3 b4 (by omega) (by omega) (by omega) (by omega) (by omega) (by omega)
  have e1 := f2 1 (by omega) (by omega) (by omega) (by omega) (by omega)
  refine ⟨⟨xT_f iT (f2 3 (by omega) (by omega) (by omega) (by omega) (by omega)) (f2 4 (by omega) (by omega) (by omega) (by omega) (by omega)), ⟨by rw [e1]; exact iS.1, by rw [e1]; exact hS⟩, xC_f iC (fun b b1 b2 => f2 b (by omega) (by omega) (by omega) (by omega) (by omega)), xO_f iO (fun b b1 => f2 b (by omega) (by omega) (by omega) (by omega) (by omega)), xP_f iP (fun b b1 b2 => f2 b (by omega) (by omega) (by omega) (by omega) (by omega)), xR_f iR (by rw [e1]) (fun b b1 b2 => f2 b (by omega) (by omega) (by omega) (by omega) (by omega)), xH_f iH (fun b b1 b2 => f2 b (by omega) (by omega) (by omega) (by omega) (by omega)), iN, iK⟩, frX_of (fun b hb => f2 b (by omega) (by omega) (by omega) (by omega) (by omega))⟩
theorem c_X8_supposed {a : Int} (sA : shA w) (I : invX w h S g F L W At) (hk : 0 ≤ k ∧ k < S 96) (hs : 0 ≤ s ∧ s ≤ 99) (ha : 0 ≤ a ∧ a ≤ 3) : CI mX8_supposed [vR 1, vI k, vI s, vI a] w h (fun x h' => wldS (sl S k s) a x ∧ invX w h' S g F L W At ∧ frX h h') := by
  obtain ⟨iT, iS, iC, iO, iP, iR, iH, iN, iK⟩ := id I
  have ho := xS_o iS
  have hs0 := fa_so sA iS
  have k96 := iN.1.1
  have k8 : k < 8 := by omega
  have ok1 : okS (sl S k s) := sl_ok iN.1 hk (by omega)
  obtain ⟨cn, cf, ct⟩ := sl_c (s := s) iN.1 k8
  have hi := sl_hi (S := S) (s := s) k8
  obtain ⟨y1, y2, y3, y4, y5, y6, y7⟩ := id iS.2
  have hn1 : okS (sl S k s) ∧ cN (sl S k s) ≤ 200 := ⟨ok1, by rw [cn]; exact iN.2⟩
  obtain ⟨okc, hL⟩ := inv_ok hn1
  refine e_X8_supposed (r_X8_supposed_0 sA ?_)
  refine ⟨hs0.1, hs0, by omega, by rw [y1]; exact iN.1.1, ?_⟩
  intro y ey
  rw [if_pos (by rw [y1]; exact hk), (y6 k hk.1 hk.2).2.1] at ey
  refine (c_X5_setSlack hs0 (by rw [y1]; exact k96) hk.1 (by rw [y1]; exact hk.2)).mono ?_
  intro h7 e7
  have f7 : ∀ b, b ≠ h 1 2 + 3 → h7 b = h b := fun b hb => by rw [e7, st_row _ _ _ hb]
  have o7 : h7 1 2 = h 1 2 := by rw [f7 1 (by omega)]
  have S7 : isS h7 (h 1 2) (sl S k s) := isS_sl iS.2 iN.1 hk e7
  -- the slack comes back
  have back : ∀ (h10 h12 : AH), (∀ b, (b < 40 ∨ 43 < b) → b ≠ 57 → b ≠ 58 → b ≠ 60 → b ≠ 61 → b ≠ 62 → b ≠ 63 → b ≠ 64 → h10 b = h7 b) → h12 = st h10 (h 1 2 + 3) k y → isS h12 (h 1 2) S := by
    intro h10 h12 f e
    have S10 : isS h10 (h 1 2) (sl S k s) := isS_frame S7 (fun b b1 b2 => f b (by omega) (by omega) (by omega) (by omega) (by omega) (by omega) (by omega) (by omega))
    have q := isS_sl (s := y) S10 ok1 (by rw [hi 96 (by omega)]; exact hk) e
    have e2 : sl (sl S k s) k y = S := by
      funext j
      by_cases z : j = 8 + k
      · rw [z, sl, up_s, ey]
      · rw [sl, up_o _ _ z, sl, up_o _ _ z]
    rw [e2] at q
    exact q
  refine ⟨by omega, fun c => ?_, fun c => ?_⟩
  · rw [o7]
    have l55 := fa_cl55 sA
    have n0 := cN_0 S
    have P7 : isP h7 55 (clsA S) := xO_f iO (fun b b1 => f7 b (by omega))
    have g7 : h7 55 4 = cN S ∧ ∀ j, 0 ≤ j → j < cN S → h7 56 j = cF S j ∧ h7 59 j = cT S j := by
      refine ⟨P7.1, fun j j0 j1 => ?_⟩
      have := P7.2 j.toNat _ (clsA_get j0 j1)
      rw [show ((j.toNat : Nat) : Int) = j by omega] at this
      exact this
    refine (c_X0_layOut (n := cN S) (F := cF S) (T := cT S) (fa_calls55 sA) hs0 S7 ok1 (by omega) ⟨g7.1, n0, by rw [show (55 : Int) + 1 = 56 from rfl, l55]; exact iN.2⟩ ?_).mono ?_
    · intro j j0 j1
      have b := cFT_r iN.1 j0 j1
      have k3 := iN.1.2.2.1
      refine ⟨g7.2 j j0 j1, by omega, ?_⟩
      rw [hi 97 (by omega)]
      exact b.2.1
    · rintro h9 ⟨l1, l2⟩
      have o9 : h9 1 2 = h 1 2 := by rw [l2 1 (by omega) (by omega)]; exact o7
      rw [o9]
      have S9 : isS h9 (h 1 2) (sl S k s) := isS_frame S7 (fun b b1 b2 => l2 b (by omega) (by omega))
      have C9 : isC w h9 55 (cN (sl S k s)) (cF (sl S k s)) (cL (sl S k s)) (cW (sl S k s)) := by
        refine ⟨⟨by rw [l2 55 (by omega) (by omega), cn]; exact g7.1, by rw [show (55 : Int) + 1 = 56 from rfl, l55]; exact hn1.2⟩, fun j j0 j1 => ?_⟩
        rw [cn] at j1
        refine ⟨by rw [l2 (55 + 1) (by omega) (by omega), cf]; exact (g7.2 j j0 j1).1, ?_, ?_⟩
        · rw [(l1 j j0 j1).1, cL, cf, ct]
        · rw [(l1 j j0 j1).2, cW, ct]
      have l60 := fa_wl60 sA
      refine (c_X2_make (fa_plan sA) (fa_wakes60 sA) (fa_calls55 sA) hs0 C9 okc S9 ok1 hL (by rw [show (60 : Int) + 1 = 61 from rfl, l60]; exact hn1.2) (by omega) (by omega) (by omega) (by omega) (by omega) (by omega)).mono ?_
      rintro h10 ⟨m1, m2, m3⟩
      have o10 : h10 1 2 = h 1 2 := by rw [m3 1 (by omega) (by omega) (by omega)]; exact o9
      rw [o10]
      have f10 : ∀ b, (b < 40 ∨ 43 < b) → b ≠ 57 → b ≠ 58 → b ≠ 60 → b ≠ 61 → b ≠ 62 → b ≠ 63 → b ≠ 64 → h10 b = h7 b := fun b b1 b2 b3 b4 b5 _ _ _ => (m3 b (by omega) b4 (by omega)).trans (l2 b (by omega) (by omega))
      have e96 : h10 (h 1 2) 4 = S 96 := by rw [f10 _ (by omega) (by omega) (by omega) (by omega) (by omega) (by omega) (by omega) (by omega), f7 _ (by omega)]; exact y1
      refine ⟨hs0.1, (c_X5_setSlack hs0 (by rw [e96]; exact k96) hk.1 (by rw [e96]; exact hk.2)).mono ?_⟩
      intro h12 e12
      have S12 := back h10 h12 f10 e12
      have f12 : ∀ b, b ≠ h 1 2 + 3 → h12 b = h10 b := fun b hb => by rw [e12, st_row _ _ _ hb]
      have fin := sup_inv (h' := h12) I (fun b b1 b2 b3 b4 b5 b6 b7 b8 b9 => (f12 b b9).trans ((f10 b b1 b2 b3 b4 b5 b6 b7 b8).trans (f7 b b9))) S12
      have o12 : h12 1 2 = h 1 2 := by rw [f12 1 (by omega)]; exact o10
      rw [o12]
      obtain ⟨v1, v2, v3, v4, v5, -⟩ := S12
      have m1' : planS (cN (sl S k s)) (cF (sl S k s)) (cL (sl S k s)) (cW (sl S k s)) (sl S k s) a (h12 60 1) (h12 61) := by rw [f12 60 (by omega), f12 61 (by omega)]; exact m1
      have m2' : h12 60 1 ≤ cN (sl S k s) := by rw [f12 60 (by omega)]; exact m2
      have okw := planS_okW okc ok1 hL m1'
      have kp := planS_kept okc ok1 hL m1'
      have iw : isW w h12 60 (h12 60 1) (h12 61) := ⟨⟨rfl, okw.1.1, by rw [show (60 : Int) + 1 = 61 from rfl, l60]; have := hn1.2; omega⟩, fun j _ _ => rfl⟩
      have C12 : isC w h12 55 (cN (sl S k s)) (cF (sl S k s)) (cL (sl S k s)) (cW (sl S k s)) := isC_frame C9 (fun b b1 b2 => (f12 b (by omega)).trans (m3 b (by omega) (by omega) (by omega)))
      have k4 := iN.1.2.2.2.1
      have k5 := iN.1.2.2.2.2.1
      rw [v4, v5]
      refine ⟨fun d => ⟨⟨fun _ => ⟨_, _, by rw [d] at m1'; exact m1', m2', rfl⟩, by omega, by omega, by omega⟩, fin⟩, fun d => ⟨hs0.1, (c_X7_costFor (fa_wakes60 sA) iw okw (fa_calls55 sA) C12 okc kp).eq ⟨⟨by omega, fun _ => ⟨_, _, by rw [d] at m1'; exact m1', m2', by rw [hi 99 (by omega)]⟩, by omega, by omega⟩, fin⟩⟩, fun d => ⟨hs0.1, (c_X7_energy (fa_wakes60 sA) iw okw (by omega) (by omega)).eq ⟨⟨by omega, by omega, fun _ => ⟨_, _, by rw [d] at m1'; exact m1', m2', by rw [hi 99 (by omega), hi 100 (by omega)]⟩, by omega⟩, fin⟩⟩, fun d => absurd d (by omega)⟩
  · rw [o7]
    refine (c_X4_make (fa_round62 sA) hs0 S7 ok1 (by omega)).mono ?_
    rintro h10 ⟨m1, m2⟩
    have o10 : h10 1 2 = h 1 2 := by rw [m2 1 (by omega) (by omega) (by omega)]; exact o7
    rw [o10]
    have f10 : ∀ b, (b < 40 ∨ 43 < b) → b ≠ 57 → b ≠ 58 → b ≠ 60 → b ≠ 61 → b ≠ 62 → b ≠ 63 → b ≠ 64 → h10 b = h7 b := fun b b1 b2 b3 b4 b5 b6 b7 b8 => m2 b b6 (by omega) (by omega)
    have e96 : h10 (h 1 2) 4 = S 96 := by rw [f10 _ (by omega) (by omega) (by omega) (by omega) (by omega) (by omega) (by omega) (by omega), f7 _ (by omega)]; exact y1
    refine ⟨hs0.1, (c_X5_setSlack hs0 (by rw [e96]; exact k96) hk.1 (by rw [e96]; exact hk.2)).mono ?_⟩
    intro h12 e12
    have S12 := back h10 h12 f10 e12
    have f12 : ∀ b, b ≠ h 1 2 + 3 → h12 b = h10 b := fun b hb => by rw [e12, st_row _ _ _ hb]
    have fin := sup_inv (h' := h12) I (fun b b1 b2 b3 b4 b5 b6 b7 b8 b9 => (f12 b b9).trans ((f10 b b1 b2 b3 b4 b5 b6 b7 b8).trans (f7 b b9))) S12
    refine ⟨fun d => absurd d (by omega), fun d => absurd d (by omega), fun d => absurd d (by omega), fun _ => ?_⟩
    rw [f12 62 (by omega)]
    rcases m1.2.2 with ⟨q1, ⟨m, q2, q3, q4⟩, q5⟩ | ⟨q1, q2⟩
    · have hr := hypC_r (sl S k s)
      have hm : (m : Int) ≤ hypC (sl S k s) := by
        obtain ⟨m', c1, c2, c3⟩ := isCnt_ex ok1 (hyp_perH ok1 q1.1).2 q4.1.1 (show 0 < hypC (sl S k s) by have := q4.1; omega)
        rw [isCnt_one q4.2.1 c1]; exact c3
      refine ⟨by omega, fun d => absurd d (by omega), fun _ => ⟨⟨by omega, by omega, by omega, fun _ => Or.inl ⟨q1, m, _, q4, q2⟩⟩, fin⟩⟩
    · exact ⟨by omega, fun _ => ⟨⟨by omega, by omega, by omega, fun _ => Or.inr ⟨q1, rfl⟩⟩, fin⟩, fun d => absurd d (by omega)⟩
def wouA (S : Int → Int) (k s a x : Int) : Prop := (¬ ((0 ≤ k ∧ k < S 96) ∧ (0 ≤ s ∧ s ≤ 99) ∧ (0 ≤ a ∧ a ≤ 3)) ∧ x = -1) ∨ (((0 ≤ k ∧ k < S 96) ∧ (0 ≤ s ∧ s ≤ 99) ∧ (0 ≤ a ∧ a ≤ 3)) ∧ wldS (sl S k s) a x)
theorem c_X8_would {a : Int} (sA : shA w) (I : invX w h S g F L W At) (hk : inR k) (hs : inR s) (ha : inR a) : CI mX8_would [vR 1, vI k, vI s, vI a] w h (fun x h' => wouA S k s a x ∧ invX w h' S g F L W At ∧ frX h h') := by
  obtain ⟨iT, iS, iC, iO, iP, iR, iH, iN, iK⟩ := id I
  have hs0 := fa_so sA iS
  have k96 := iN.1.1
  have no : ¬ ((0 ≤ k ∧ k < S 96) ∧ (0 ≤ s ∧ s ≤ 99) ∧ (0 ≤ a ∧ a ≤ 3)) → wouA S k s a (-1) ∧ invX w h S g F L W At ∧ frX h h := fun q => ⟨Or.inl ⟨q, rfl⟩, I, frX_rfl h⟩
  refine e_X8_would (r_X8_would_0 sA ?_)
  rw [iS.2.1]
  refine ⟨hs0.1, hk, by omega, fun c => no (by omega), fun c => ⟨hs, fun c2 => no (by omega), fun c2 => ⟨fun c3 => no (by omega), fun c3 => ⟨ha, fun c4 => no (by omega), fun c4 => ⟨fun c5 => ?_, fun c5 => no (by omega)⟩⟩⟩⟩⟩
  refine (c_X8_supposed sA I c (by omega) (by omega)).mono ?_
  rintro x h' ⟨q1, q2⟩
  exact ⟨Or.inr ⟨⟨c, by omega, by omega⟩, q1⟩, q2⟩
end
