section
variable {w : WS} {h : AH} {S : Int → Int}
/-- what a round of the reference leaves -/
def rdM (S : Int → Int) (h : AH) : Prop := h 65 26 = hypC S ∧ h 65 27 = cyc S (hypC S) (S 97).toNat ∧ ∃ (m : Nat) (p : Int), roundS S (hypC S) p m ∧ h 65 31 = m ∧ h 65 32 = p ∧ ∀ k : Nat, k < m → h 82 k = itn S k p % hypC S
theorem c_X9_laysRound (sA : shA w) (A : isAll h S) (ok : okS S) : CI mX9_laysRound [vR 65] w h (fun x h' => kM h h' ∧ ((x = 1 ∧ rdE S ∧ rdM S h') ∨ (x = 0 ∧ ¬ rdE S))) := by
  refine e_X9_laysRound (r_X9_laysRound_0 sA ((c_X9_laysHyper sA A ok).mono ?_))
  rintro x h1 ⟨k1, q⟩
  rcases q with ⟨q1, q2, q3, q4⟩ | ⟨q1, q2⟩
  · refine ⟨by omega, fun _ h4 e4 => ?_, fun c => absurd c (by omega)⟩
    have hH : hypC S = hyp S (S 97).toNat := by unfold hypC; rw [if_neg (by have := q2.1; omega)]
    obtain ⟨hper, any⟩ := hyp_perH ok q2.1
    rw [← hH] at hper
    have hr := hypC_r S
    have Hp : 0 < hypC S := by rw [hH]; exact q2.1
    generalize hHH : hypC S = H at *
    -- the best of those ahead of p
    let best : AH → Int → Prop := fun h1 p => (p = 0 ∧ h1 65 31 = 401) ∨ ∃ (m : Nat) (b : Int), (0 ≤ b ∧ b < p) ∧ h1 65 31 = m ∧ h1 65 32 = b ∧ isCnt S H b m ∧ (∀ (q : Int) (m' : Nat), 0 ≤ q → q < p → isCnt S H q m' → m ≤ m' ∧ (q < b → m < m')) ∧ ∀ k : Nat, k < m → h1 82 k = itn S k b % H
    have bestd : ∀ h1 p, best h1 p = ((p = 0 ∧ h1 65 31 = 401) ∨ ∃ (m : Nat) (b : Int), (0 ≤ b ∧ b < p) ∧ h1 65 31 = m ∧ h1 65 32 = b ∧ isCnt S H b m ∧ (∀ (q : Int) (m' : Nat), 0 ≤ q → q < p → isCnt S H q m' → m ≤ m' ∧ (q < b → m < m')) ∧ ∀ k : Nat, k < m → h1 82 k = itn S k b % H) := fun _ _ => rfl
    have mle : ∀ {b : Int} {m : Nat}, 0 ≤ b → isCnt S H b m → 0 < m ∧ (m : Int) ≤ H := by
      intro b m b0 hc
      obtain ⟨m', c1, c2, c3⟩ := isCnt_ex ok any b0 Hp
      rw [isCnt_one hc c1]; exact ⟨c2, c3⟩
    have outer : ∀ (d : Nat) (p : Int) (h1 : AH), p + d = H → 0 ≤ p → h1 65 26 = H → h1 65 27 = cyc S H (S 97).toNat → best h1 p → kM h h1 → XI mX9_laysRound 18 [some (vR 65), some (vI p), none] [] w h1 (fun x h' => kM h h' ∧ ((x = 1 ∧ rdE S ∧ rdM S h') ∨ (x = 0 ∧ ¬ rdE S))) := by
      intro d
      induction d with
      | zero =>
        intro p h1 hp p0 e6 e7 hb km
        refine r_X9_laysRound_18 sA ?_
        rw [e6]
        refine ⟨by omega, by omega, fun _ => ⟨km, Or.inl ⟨rfl, q2, ?_⟩⟩, fun c => absurd c (by omega)⟩
        rw [bestd] at hb
        rcases hb with hb | ⟨m, b, b1, b2, b3, b4, b5, b6⟩
        · omega
        · unfold rdM
          rw [hHH]
          exact ⟨e6, e7, m, b, ⟨⟨b1.1, by omega⟩, b4, fun q m' q0 q1 hc => b5 q m' q0 (by omega) hc⟩, b2, b3, b6⟩
      | succ d ih =>
        intro p h1 hp p0 e6 e7 hb km
        refine r_X9_laysRound_18 sA ?_
        rw [e6]
        refine ⟨by omega, by omega, fun c => absurd c (by omega), fun _ h3 e3 => ?_⟩
        obtain ⟨mp, c1, c2, c3⟩ := isCnt_ex ok any p0 Hp
        -- one round
        have walk : ∀ (d j : Nat) (h5 : AH), j + d = mp → h5 65 30 = j → (∀ i : Nat, i < j → h5 81 i = itn S i p % H) → (∀ b, b ≠ 65 → b ≠ 81 → h5 b = h1 b) → (∀ i, i ≠ 30 → h5 65 i = h1 65 i) → XI mX9_laysRound 33 [some (vR 65), some (vI p), some (vI (itn S j p))] [] w h5 (fun x h' => kM h h' ∧ ((x = 1 ∧ rdE S ∧ rdM S h') ∨ (x = 0 ∧ ¬ rdE S))) := by
          intro d
          induction d with
          | zero =>
            intro j h5 hj e30 h81 fo fi
            have ej : j = mp := by omega
            subst ej
            have km5 : kM h h5 := ⟨fun b hb => (fo b (by omega) (by omega)).trans (km.1 b hb), fun i hi => (fi i (by omega)).trans (km.2 i hi)⟩
            have ge := c1.2
            have ub : itn S j p ≤ 100000 := by
              obtain ⟨i, rfl⟩ : ∃ i, j = i + 1 := ⟨j - 1, by omega⟩
              have a := c1.1 i (by omega)
              have b0 := itn_ge ok any p0 i
              have b := nl_gt ok any (t := itn S i p) (by omega)
              rw [itn]; omega
            have e31 : inR (h5 65 31) ∧ h5 65 31 = h1 65 31 := by
              have e := fi 31 (by decide)
              refine ⟨?_, e⟩
              rw [e]
              rw [bestd] at hb
              rcases hb with hb | ⟨m, b, b1, b2, b3, b4, -⟩
              · omega
              · have := mle b1.1 b4; omega
            refine r_X9_laysRound_33 sA ?_
            rw [fi 26 (by decide), e6, e30]
            refine ⟨by omega, by omega, fun _ => ⟨by omega, e31.1, fun c h7 e7' h9 e9 => ?_, fun c => ?_⟩, fun c => absurd ge c⟩
            · -- it is better: copied
              have g31 : h9 65 31 = j := by rw [e9, st_slot _ _ _ _ (by decide), e7', st_same]
              have g32 : h9 65 32 = p := by rw [e9, st_same]
              have gi : ∀ i, i ≠ 31 → i ≠ 32 → h9 65 i = h5 65 i := fun i i1 i2 => by rw [e9, st_slot _ _ _ _ i2, e7', st_slot _ _ _ _ i1]
              have go : ∀ b, b ≠ 65 → h9 b = h5 b := fun b hb => by rw [e9, st_row _ _ _ hb, e7', st_row _ _ _ hb]
              have copy : ∀ (d2 k : Nat) (h11 : AH), k + d2 = j → (∀ i : Nat, i < k → h11 82 i = itn S i p % H) → (∀ b, b ≠ 82 → h11 b = h9 b) → XI mX9_laysRound 106 [some (vR 65), some (vI p), some (vI k)] [] w h11 (fun x h' => kM h h' ∧ ((x = 1 ∧ rdE S ∧ rdM S h') ∨ (x = 0 ∧ ¬ rdE S))) := by
                intro d2
                induction d2 with
                | zero =>
                  intro k h11 hk h82 f11
                  refine r_X9_laysRound_106 sA ?_
                  rw [f11 65 (by decide), gi 30 (by decide) (by decide), e30]
                  refine ⟨by omega, by omega, fun _ => ?_, fun c => absurd c (by omega)⟩
                  refine ih (p + 1) h11 (by omega) (by omega) (by rw [f11 65 (by decide), gi 26 (by decide) (by decide), fi 26 (by decide)]; exact e6) (by rw [f11 65 (by decide), gi 27 (by decide) (by decide), fi 27 (by decide)]; exact e7) ?_ ?_
                  · rw [bestd]
                    right
                    refine ⟨j, p, by omega, by rw [f11 65 (by decide)]; exact g31, by rw [f11 65 (by decide)]; exact g32, c1, fun q m' q0 q1 hc => ?_, fun i hi => h82 i (by omega)⟩
                    by_cases e : q = p
                    · subst e
                      rw [isCnt_one hc c1]
                      exact ⟨Nat.le_refl _, fun z => absurd z (by omega)⟩
                    · rw [bestd] at hb
                      rcases hb with hb | ⟨m, b, b1, b2, b3, b4, b5, -⟩
                      · omega
                      · have := (b5 q m' q0 (by omega) hc).1
                        rw [e31.2, b2] at c
                        exact ⟨by omega, fun _ => by omega⟩
                  · exact kM_tr km5 ⟨fun b hb => by rw [f11 b (by omega), go b (by omega)], fun i hi => by rw [f11 65 (by decide), gi i (by omega) (by omega)]⟩
                | succ d2 ih2 =>
                  intro k h11 hk h82 f11
                  refine r_X9_laysRound_106 sA ?_
                  rw [f11 65 (by decide), gi 30 (by decide) (by decide), e30]
                  refine ⟨by omega, by omega, fun c => absurd c (by omega), fun _ => ⟨by omega, by omega, fun h13 e13 => ?_⟩⟩
                  refine ih2 (k + 1) h13 (by omega) (fun i hi => ?_) (fun b hb => by rw [e13, st_row _ _ _ hb]; exact f11 b hb)
                  by_cases e : i = k
                  · rw [e, e13, st_same, f11 81 (by decide), go 81 (by decide)]; exact h81 k (by omega)
                  · rw [e13, st_slot _ _ _ _ (by omega)]; exact h82 i (by omega)
              exact copy j 0 h9 (by omega) (fun i hi => by omega) (fun b _ => rfl)
            · refine ih (p + 1) h5 (by omega) (by omega) (by rw [fi 26 (by decide)]; exact e6) (by rw [fi 27 (by decide)]; exact e7) ?_ km5
              rw [bestd] at hb ⊢
              rcases hb with hb | ⟨m, b, b1, b2, b3, b4, b5, b6⟩
              · have := e31.2; omega
              · right
                refine ⟨m, b, by omega, by rw [fi 31 (by decide)]; exact b2, by rw [fi 32 (by decide)]; exact b3, b4, fun q m' q0 q1 hc => ?_, fun i hi => by rw [fo 82 (by decide) (by decide)]; exact b6 i hi⟩
                by_cases e : q = p
                · subst e
                  rw [isCnt_one hc c1]
                  rw [e31.2, b2] at c
                  exact ⟨by omega, fun z => absurd z (by omega)⟩
                · exact b5 q m' q0 (by omega) hc
          | succ d ihw =>
            intro j h5 hj e30 h81 fo fi
            have lt := c1.1 j (by omega)
            have ge := itn_ge ok any p0 j
            have A5 : isAll h5 S := fun i i0 i1 => by rw [fo 66 (by decide) (by decide)]; exact kM_all km A i i0 i1
            refine r_X9_laysRound_33 sA ?_
            rw [fi 26 (by decide), e6, e30]
            refine ⟨by omega, by omega, fun c => absurd c (by omega), fun _ => ⟨by omega, by omega, by omega, by omega, fun h15 e15 h17 e17 => ?_⟩⟩
            have e30' : h15 65 30 = j := by rw [e15, st_cell _ _ _ _ (by decide)]; exact e30
            rw [e30'] at e17
            have f17 : ∀ b, b ≠ 65 → b ≠ 81 → h17 b = h1 b := fun b b1 b2 => by rw [e17, st_row _ _ _ b1, e15, st_row _ _ _ b2]; exact fo b b1 b2
            have A17 : isAll h17 S := fun i i0 i1 => by rw [f17 66 (by decide) (by decide)]; exact kM_all km A i i0 i1
            refine (c_X9_nextLatest sA A17 ok (by omega)).eq ?_
            have I := ihw (j + 1) h17 (by omega) (by rw [e17, st_same]; omega) (fun i hi => ?_) f17 (fun i hi => by rw [e17, st_slot _ _ _ _ hi, e15, st_cell _ _ _ _ (by decide)]; exact fi i hi)
            · rw [itn] at I; exact I
            · by_cases e : i = j
              · rw [e, e17, st_cell _ _ _ _ (by decide), e15, st_same]
              · rw [e17, st_cell _ _ _ _ (by decide), e15, st_slot _ _ _ _ (by omega)]; exact h81 i (by omega)
        exact walk mp 0 h3 (by omega) (by rw [e3, st_same]; rfl) (fun i hi => by omega) (fun b b1 _ => by rw [e3, st_row _ _ _ b1]) (fun i hi => by rw [e3, st_slot _ _ _ _ hi])
    refine outer H.toNat 0 h4 (by omega) (by omega) (by rw [e4, st_slot _ _ _ _ (by decide)]; exact q3) (by rw [e4, st_slot _ _ _ _ (by decide)]; exact q4) ?_ (by rw [e4]; exact kM_st k1 (by omega))
    rw [bestd]
    exact Or.inl ⟨rfl, by rw [e4, st_same]⟩
  · exact ⟨by omega, fun c => absurd q1 c, fun _ => ⟨k1, Or.inr ⟨rfl, q2⟩⟩⟩
theorem c_X9_round {a : Int} (sA : shA w) (A : isAll h S) (ok : okS S) (ha : inR a) : CI mX9_round [vR 65, vI a] w h (fun x h' => rouA S a x ∧ kM h h') := by
  refine e_X9_round (r_X9_round_0 sA ((c_X9_laysRound sA A ok).mono ?_))
  rintro x h1 ⟨km, q⟩
  rcases q with ⟨q1, q2, r1, r2, m, p, r3, r4, r5, r6⟩ | ⟨q1, q2⟩
  · refine ⟨by omega, fun _ => ⟨ha, fun d0 => ⟨fun d1 => ⟨fun d2 => ⟨fun d3 => ⟨Or.inr ⟨q2, m, p, r3, ?_⟩, km⟩, fun d3 => ⟨Or.inr ⟨q2, m, p, r3, ?_⟩, km⟩⟩, fun d2 => ⟨Or.inr ⟨q2, m, p, r3, ?_⟩, km⟩⟩, fun d1 => ⟨Or.inr ⟨q2, m, p, r3, ?_⟩, km⟩⟩, fun d0 => ⟨Or.inr ⟨q2, m, p, r3, ?_⟩, km⟩⟩, fun c => absurd c (by omega)⟩
    · rw [if_neg d0, if_neg d1, if_neg d2, if_neg d3]
    · rw [if_neg d0, if_neg d1, if_neg d2, if_pos d3]; exact r5
    · rw [if_neg d0, if_neg d1, if_pos d2]; exact r4
    · rw [if_neg d0, if_pos d1]; exact r2
    · rw [if_pos d0]; exact r1
  · exact ⟨by omega, fun c => absurd q1 c, fun _ => ⟨Or.inl ⟨q2, rfl⟩, km⟩⟩
theorem rouA_one {a x x' : Int} (h1 : rouA S a x) (h2 : rouA S a x') : x = x' := by
  rcases h1 with ⟨a1, a2⟩ | ⟨a1, m, p, a2, a3⟩ <;> rcases h2 with ⟨b1, b2⟩ | ⟨b1, m', p', b2, b3⟩
  · omega
  · exact absurd b1 a1
  · exact absurd a1 b1
  · have e := roundS_one a2 b2
    rw [a3, b3, e.1, e.2]
theorem c_X9_roundAt {k : Int} (sA : shA w) (A : isAll h S) (ok : okS S) (hk : inR k) : CI mX9_roundAt [vR 65, vI k] w h (fun x h' => ratA S k x ∧ kM h h') := by
  refine e_X9_roundAt (r_X9_roundAt_0 sA ((c_X9_laysRound sA A ok).mono ?_))
  rintro x h1 ⟨km, q⟩
  rcases q with ⟨q1, q2, r1, r2, m, p, r3, r4, r5, r6⟩ | ⟨q1, q2⟩
  · have hm := rd_m ok q2 r3
    have hr := hypC_r S
    rw [r4]
    refine ⟨by omega, fun c => absurd c (by omega), fun _ => ⟨hk, by omega, fun c => ⟨Or.inr ⟨q2, m, p, r3, (if_neg (by omega)).symm⟩, km⟩, fun c => ⟨by omega, by omega, Or.inr ⟨q2, m, p, r3, ?_⟩, km⟩⟩⟩
    rw [if_pos (by omega)]
    have := r6 k.toNat (by omega)
    rw [show ((k.toNat : Nat) : Int) = k by omega] at this
    exact this
  · exact ⟨by omega, fun _ => ⟨Or.inl ⟨q2, rfl⟩, km⟩, fun c => absurd q1 c⟩
theorem ratA_one {k x x' : Int} (h1 : ratA S k x) (h2 : ratA S k x') : x = x' := by
  rcases h1 with ⟨a1, a2⟩ | ⟨a1, m, p, a2, a3⟩ <;> rcases h2 with ⟨b1, b2⟩ | ⟨b1, m', p', b2, b3⟩
  · omega
  · exact absurd b1 a1
  · exact absurd a1 b1
  · have e := roundS_one a2 b2
    rw [a3, b3, e.1, e.2]
/-- what would be told, by the reference: it is what anybody tells -/
theorem c_X9_wouldBe {a x0 : Int} (sA : shA w) (A : isAll h S) (iN : okS S ∧ cN S ≤ 200) (ha : 0 ≤ a ∧ a ≤ 3) (hx : wldS S a x0) : CI mX9_wouldBe [vR 65, vI a] w h (fun x h' => x = x0 ∧ kM h h') := by
  obtain ⟨ok, hL⟩ := inv_ok iN
  refine e_X9_wouldBe (r_X9_wouldBe_0 sA ⟨by omega, fun c => (c_X9_laysPlan sA A iN (by omega)).mono ?_, fun c => (c_X9_laysRound sA A iN.1).mono ?_⟩)
  · rintro x h2 ⟨rfl, R, Q, km⟩
    have A2 := kM_all km A
    refine ⟨by decide, fun _ => ⟨fun c0 => ⟨fun c1 => ?_, fun c1 => ?_⟩, fun c0 => ?_⟩, fun z => absurd z (by decide)⟩
    · obtain ⟨m, t, p1, p2, p3⟩ := hx.2.2.1 (by omega)
      obtain ⟨V, okw, kp⟩ := plan_V iN (by rw [show a = 2 by omega] at Q; exact Q) p1
      exact (c_X9_energy sA A2 iN.1 V okw).eq ⟨p3.symm, km⟩
    · obtain ⟨m, t, p1, p2, p3⟩ := hx.2.1 c1
      obtain ⟨V, okw, kp⟩ := plan_V iN (by rw [c1] at Q; exact Q) p1
      rw [V.1, A2 99 (by omega) (by omega)]
      exact (c_X9_waitsAll sA R ok V okw).eq ⟨p3.symm, km⟩
    · obtain ⟨m, t, p1, p2, p3⟩ := hx.1 c0
      obtain ⟨V, okw, kp⟩ := plan_V iN (by rw [c0] at Q; exact Q) p1
      exact ⟨by rw [V.1, p3], km⟩
  · rintro x h2 ⟨km, q⟩
    rcases q with ⟨q1, q2, r1, r2, m, p, r3, r4, r5, r6⟩ | ⟨q1, q2⟩
    · refine ⟨by omega, fun z => absurd z (by omega), fun _ => ⟨?_, km⟩⟩
      rcases hx.2.2.2 c with ⟨-, m', p', z1, z2⟩ | ⟨z1, -⟩
      · rw [r4, z2, (roundS_one r3 z1).2]
      · exact absurd q2 z1
    · refine ⟨by omega, fun _ => ⟨?_, km⟩, fun z => absurd q1 z⟩
      rcases hx.2.2.2 c with ⟨z1, -⟩ | ⟨-, z2⟩
      · exact absurd z1 q2
      · exact z2.symm
theorem c_X9_wouldBe0 (sA : shA w) (A : isAll h S) (iN : okS S ∧ cN S ≤ 200) : CI mX9_wouldBe [vR 65, vI 0] w h (fun x h' => (fewM S x ∧ 0 ≤ x ∧ x ≤ 301) ∧ kM h h') := by
  obtain ⟨ok, hL⟩ := inv_ok iN
  refine e_X9_wouldBe (r_X9_wouldBe_0 sA ⟨by decide, fun c => (c_X9_laysPlan sA A iN (by decide)).mono ?_, fun c => absurd c (by decide)⟩)
  rintro x h2 ⟨rfl, R, Q, km⟩
  have okw := planS_okW ok iN.1 hL Q
  exact ⟨by decide, fun _ => ⟨fun c0 => absurd rfl c0, fun _ => ⟨⟨⟨_, Q⟩, okw.1⟩, km⟩⟩, fun z => absurd z (by decide)⟩
/-- the slack there and back -/
theorem sl_back {k s : Int} {h7 h9 h11 : AH} (e7 : h7 = st h 66 (8 + k) s) (km : kM h7 h9) (e11 : h11 = st h9 66 (8 + k) (h 66 (8 + k))) : kM h h11 := by
  refine ⟨fun b hb => ?_, fun i hi => ?_⟩
  · by_cases e : b = 66
    · subst e
      funext j
      by_cases z : j = 8 + k
      · rw [z, e11, st_same]
      · rw [e11, st_slot _ _ _ _ z, km.1 66 (by omega), e7, st_slot _ _ _ _ z]
    · rw [e11, st_row _ _ _ e, km.1 b hb, e7, st_row _ _ _ e]
  · rw [e11, st_cell _ _ _ _ (by decide), km.2 i hi, e7, st_cell _ _ _ _ (by decide)]
theorem all_sl {k s : Int} {h7 : AH} (A : isAll h S) (e7 : h7 = st h 66 (8 + k) s) : isAll h7 (sl S k s) := by
  intro j j0 j1
  by_cases z : j = 8 + k
  · rw [z, e7, st_same, sl, up_s]
  · rw [e7, st_slot _ _ _ _ z, sl, up_o _ _ z]; exact A j j0 j1
theorem c_X9_would {k s a x0 : Int} (sA : shA w) (A : isAll h S) (iN : okS S ∧ cN S ≤ 200) (hk : inR k) (hs : inR s) (ha : inR a) (hx : wouA S k s a x0) : CI mX9_would [vR 65, vI k, vI s, vI a] w h (fun x h' => x = x0 ∧ kM h h') := by
  have l1 := iN.1.1
  have no : ¬ ((0 ≤ k ∧ k < S 96) ∧ (0 ≤ s ∧ s ≤ 99) ∧ (0 ≤ a ∧ a ≤ 3)) → (-1 : Int) = x0 ∧ kM h h := fun z => by
    rcases hx with hx | hx
    · exact ⟨hx.2.symm, kM_rfl h⟩
    · exact absurd hx.1 z
  refine e_X9_would (r_X9_would_0 sA ?_)
  rw [A 96 (by omega) (by omega)]
  refine ⟨hk, by omega, fun c => no (fun z => c z.1), fun c => ⟨hs, fun c2 => no (fun z => c2 z.2.1), fun c2 => ⟨ha, fun c3 => ⟨by omega, by omega, fun h7 e7 => ?_⟩, fun c3 => no (fun z => c3 z.2.2)⟩⟩⟩
  have hw : wldS (sl S k s) a x0 := by
    rcases hx with hx | hx
    · exact absurd ⟨c, c2, c3⟩ hx.1
    · exact hx.2
  refine (c_X9_wouldBe sA (all_sl A e7) ⟨sl_ok iN.1 c (by omega), by rw [(sl_c (s := s) iN.1 (show k < 8 by omega)).1]; exact iN.2⟩ c3 hw).mono ?_
  rintro x h9 ⟨ex, km⟩ h11 e11
  exact ⟨ex, sl_back e7 km e11⟩
theorem c_X9_would0 {k s : Int} (sA : shA w) (A : isAll h S) (iN : okS S ∧ cN S ≤ 200) (hk : 0 ≤ k ∧ k < S 96) (hs : 0 ≤ s ∧ s ≤ 99) : CI mX9_would [vR 65, vI k, vI s, vI 0] w h (fun x h' => (fewM (sl S k s) x ∧ 0 ≤ x ∧ x ≤ 301) ∧ kM h h') := by
  have l1 := iN.1.1
  refine e_X9_would (r_X9_would_0 sA ?_)
  rw [A 96 (by omega) (by omega)]
  refine ⟨by omega, by omega, fun c => absurd hk c, fun c => ⟨by omega, fun c2 => absurd hs c2, fun c2 => ⟨by decide, fun c3 => ⟨by omega, by omega, fun h7 e7 => ?_⟩, fun c3 => absurd ⟨by decide, by decide⟩ c3⟩⟩⟩
  refine (c_X9_wouldBe0 sA (all_sl A e7) ⟨sl_ok iN.1 c (by omega), by rw [(sl_c (s := s) iN.1 (show k < 8 by omega)).1]; exact iN.2⟩).mono ?_
  rintro x h9 ⟨ex, km⟩ h11 e11
  exact ⟨ex, sl_back e7 km e11⟩
theorem c_X9_enough {k n : Int} (sA : shA w) (A : isAll h S) (iN : okS S ∧ cN S ≤ 200) (hk : inR k) (hn : inR n) : CI mX9_enough [vR 65, vI k, vI n] w h (fun x h' => enoA S k n x ∧ kM h h') := by
  have l1 := iN.1.1
  have key : ∀ (d : Nat) (s : Int) (h1 : AH), (0 ≤ k ∧ k < S 96) → s + d = 100 → 0 ≤ s → (∀ s', 0 ≤ s' → s' < s → ∀ m, fewM (sl S k s') m → n < m) → kM h h1 → XI mX9_enough 12 [some (vR 65), some (vI k), some (vI n), some (vI s)] [] w h1 (fun x h' => enoA S k n x ∧ kM h h') := by
    intro d
    induction d with
    | zero =>
      intro s h1 hk hs s0 hlo km
      exact r_X9_enough_12 sA ⟨by omega, fun _ => ⟨Or.inr ⟨hk, Or.inl ⟨rfl, fun s' a b => hlo s' a (by omega)⟩⟩, km⟩, fun c => absurd c (by omega)⟩
    | succ d ih =>
      intro s h1 hk hs s0 hlo km
      refine r_X9_enough_12 sA ⟨by omega, fun c => absurd c (by omega), fun _ => (c_X9_would0 sA (kM_all km A) iN hk (by omega)).mono ?_⟩
      rintro x h2 ⟨⟨f1, f2⟩, k2⟩
      have iN1 : okS (sl S k s) ∧ cN (sl S k s) ≤ 200 := ⟨sl_ok iN.1 hk (by omega), by rw [(sl_c (s := s) iN.1 (show k < 8 by omega)).1]; exact iN.2⟩
      refine ⟨by omega, hn, fun c => ih (s + 1) h2 hk (by omega) (by omega) (fun s' a b m hm => ?_) (kM_tr km k2), fun c => ⟨Or.inr ⟨hk, Or.inr ⟨by omega, ⟨x, f1, by omega⟩, hlo⟩⟩, kM_tr km k2⟩⟩
      by_cases e : s' = s
      · subst e
        rw [← fewM_one iN1.1 iN1.2 f1 hm]; exact c
      · exact hlo s' a (by omega) m hm
  refine e_X9_enough (r_X9_enough_0 sA ?_)
  rw [A 96 (by omega) (by omega)]
  exact ⟨hk, by omega, fun c => key 100 0 h c (by omega) (by omega) (fun s' a b => by omega) (kM_rfl h), fun c => ⟨Or.inl ⟨c, rfl⟩, kM_rfl h⟩⟩
end
