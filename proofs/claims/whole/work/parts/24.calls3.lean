theorem isS_frame {h h' : AH} {o : Int} {S : Int → Int} (hS : isS h o S) (hf : ∀ b, o ≤ b → b ≤ o + 7 → h' b = h b) : isS h' o S := by
  obtain ⟨a, b, c, d, e, f, g⟩ := hS
  unfold isS
  rw [hf o (by omega) (by omega), hf (o + 2) (by omega) (by omega), hf (o + 3) (by omega) (by omega), hf (o + 4) (by omega) (by omega), hf (o + 5) (by omega) (by omega), hf (o + 6) (by omega) (by omega), hf (o + 7) (by omega) (by omega)]
  exact ⟨a, b, c, d, e, f, g⟩
/-- the row c holds the list P of FROMs and timers -/
def isP (h : AH) (c : Int) (P : List (Int × Int)) : Prop := h c 4 = P.length ∧ ∀ (k : Nat) (x : Int × Int), P[k]? = some x → h (c + 1) k = x.1 ∧ h (c + 4) k = x.2
section
variable {w : WS} {h : AH} {c o k n : Int} {S F L W : Int → Int}
theorem isP_add {P : List (Int × Int)} {x y z t : Int} (hP : isP h c P) : isP (st (st (st (st (st h (c + 1) (h c 4) x) (c + 2) (h c 4) y) (c + 3) (h c 4) z) (c + 4) (h c 4) t) c 4 (h c 4 + 1)) c (P ++ [(x, t)]) := by
  obtain ⟨p1, p2⟩ := hP
  refine ⟨?_, fun k q hk => ?_⟩
  · rw [st_same, p1]; simp
  · have hlt : k < P.length + 1 := by have := (List.getElem?_eq_some_iff.mp hk).1; simpa using this
    rw [st_cell _ _ _ _ (show c + 1 ≠ c by omega), st_cell _ _ _ _ (show c + 4 ≠ c by omega), st_cell _ _ _ _ (show c + 1 ≠ c + 4 by omega), st_cell _ _ _ _ (show c + 1 ≠ c + 3 by omega), st_cell _ _ _ _ (show c + 1 ≠ c + 2 by omega)]
    by_cases e : k = P.length
    · subst e
      rw [List.getElem?_append_right (Nat.le_refl _), Nat.sub_self] at hk
      cases hk
      rw [← p1, st_same, st_same]
      exact ⟨rfl, rfl⟩
    · rw [List.getElem?_append_left (by omega)] at hk
      rw [st_slot _ _ _ _ (show (k : Int) ≠ h c 4 by rw [p1]; omega), st_slot _ _ _ _ (show (k : Int) ≠ h c 4 by rw [p1]; omega), st_cell _ _ _ _ (show c + 4 ≠ c + 3 by omega), st_cell _ _ _ _ (show c + 4 ≠ c + 2 by omega), st_cell _ _ _ _ (show c + 4 ≠ c + 1 by omega)]
      exact p2 k q hk
theorem add_frame {x y z t b : Int} (hb : b < c ∨ c + 4 < b) : (st (st (st (st (st h (c + 1) (h c 4) x) (c + 2) (h c 4) y) (c + 3) (h c 4) z) (c + 4) (h c 4) t) c 4 (h c 4 + 1)) b = h b := by
  rw [st_row _ _ _ (show b ≠ c by omega), st_row _ _ _ (show b ≠ c + 4 by omega), st_row _ _ _ (show b ≠ c + 3 by omega), st_row _ _ _ (show b ≠ c + 2 by omega), st_row _ _ _ (show b ≠ c + 1 by omega)]
theorem c_X0_gather (sc : shCalls w c) (ss : shSetup w o) (hS : isS h o S) (ok : okS S) (hN : cN S ≤ 200) (hd : o + 7 < c ∨ c + 4 < o) : CV mX0_gather [vR c, vR o] w h (fun h' => isP h' c (clsA S) ∧ ∀ b, (b < c ∨ c + 4 < b) → h' b = h b) := by
  have hT := ok.2.1
  have hL := ok.2.2.1
  have hl1 := sc.2.2.2.2.2.2.2
  have inner : ∀ (u : Nat), (u : Int) ≤ S 98 → (∀ h2 : AH, isP h2 c (cls S (u + 1)) → (∀ b, (b < c ∨ c + 4 < b) → h2 b = h b) → XV mX0_gather 7 [some (vR c), some (vR o), some (vI ((u : Int) + 1)), none] [] w h2 (fun h' => isP h' c (clsA S) ∧ ∀ b, (b < c ∨ c + 4 < b) → h' b = h b)) → ∀ (m t : Nat) (h1 : AH), t + m = (S 97).toNat → isP h1 c (cls S u ++ rowT S u t) → (∀ b, (b < c ∨ c + 4 < b) → h1 b = h b) → XV mX0_gather 17 [some (vR c), some (vR o), some (vI u), some (vI t)] [] w h1 (fun h' => isP h' c (clsA S) ∧ ∀ b, (b < c ∨ c + 4 < b) → h' b = h b) := by
    intro u hu K m
    induction m with
    | zero =>
      intro t h1 ht hP hf
      have hS1 := isS_frame hS (h' := h1) (fun b q1 q2 => hf b (by omega))
      refine r_X0_gather_17 ?_
      rw [hS1.2.1]
      refine ⟨ss.1, by omega, by omega, fun q => K h1 ?_ hf, fun q => absurd q (by omega)⟩
      rw [show cls S (u + 1) = cls S u ++ rowT S u (S 97).toNat from rfl, show (S 97).toNat = t by omega]
      exact hP
    | succ m ih =>
      intro t h1 ht hP hf
      have hS1 := isS_frame hS (h' := h1) (fun b q1 q2 => hf b (by omega))
      refine r_X0_gather_17 ?_
      rw [hS1.2.1]
      refine ⟨ss.1, by omega, by omega, fun q => absurd q (by omega), fun q => (c_X5_callsAt ss hS1 ok (by omega) (by omega) (by omega)).eq ?_⟩
      have er : rowT S u (t + 1) = rowT S u t ++ (if calS S t u then [((u : Int), (t : Int))] else []) := rfl
      by_cases cc : calS S t u
      · rw [if_pos cc] at er ⊢
        refine ⟨by decide, fun q2 => absurd q2 (by omega), fun q2 => ⟨sc.1, ?_⟩⟩
        have hlen : (cls S u ++ rowT S u (t + 1)).length ≤ 200 := by
          have h1 := rowT_len S u (show t + 1 ≤ (S 97).toNat by omega)
          have h2 := cls_len S (show u + 1 ≤ (S 98 + 1).toNat by omega)
          rw [show cls S (u + 1) = cls S u ++ rowT S u (S 97).toNat from rfl, List.length_append] at h2
          rw [List.length_append]
          have h3 : ((cls S (S 98 + 1).toNat).length : Int) ≤ 200 := hN
          omega
        rw [er, ← List.append_assoc, List.length_append, List.length_singleton] at hlen
        have h4 := hP.1
        refine (c_X0_add sc ⟨by omega, by omega⟩).eq ?_
        refine ih (t + 1) _ (by omega) ?_ (fun b hb => (add_frame hb).trans (hf b hb))
        rw [er, ← List.append_assoc]
        exact isP_add hP
      · rw [if_neg cc] at er ⊢
        rw [List.append_nil] at er
        refine ⟨by decide, fun q2 => ih (t + 1) h1 (by omega) (by rw [er]; exact hP) hf, fun q2 => absurd rfl q2⟩
  have outer : ∀ (m u : Nat) (h1 : AH), u + m = (S 98 + 1).toNat → isP h1 c (cls S u) → (∀ b, (b < c ∨ c + 4 < b) → h1 b = h b) → XV mX0_gather 7 [some (vR c), some (vR o), some (vI u), none] [] w h1 (fun h' => isP h' c (clsA S) ∧ ∀ b, (b < c ∨ c + 4 < b) → h' b = h b) := by
    intro m
    induction m with
    | zero =>
      intro u h1 hu hP hf
      have hS1 := isS_frame hS (h' := h1) (fun b q1 q2 => hf b (by omega))
      refine r_X0_gather_7 ?_
      rw [hS1.2.2.1]
      refine ⟨ss.1, by omega, by omega, fun q => ⟨?_, hf⟩, fun q => absurd q (by omega)⟩
      unfold clsA
      rw [← hu]; exact hP
    | succ m ih =>
      intro u h1 hu hP hf
      have hS1 := isS_frame hS (h' := h1) (fun b q1 q2 => hf b (by omega))
      refine r_X0_gather_7 ?_
      rw [hS1.2.2.1]
      refine ⟨ss.1, by omega, by omega, fun q => absurd q (by omega), fun q => inner u (by omega) (fun h2 p2 f2 => ih (u + 1) h2 (by omega) p2 f2) (S 97).toNat 0 h1 (by omega) ?_ hf⟩
      rw [show rowT S u 0 = [] from rfl, List.append_nil]
      exact hP
  refine e_X0_gather (r_X0_gather_0 ⟨sc.1, ?_⟩)
  intro h2 e2
  refine outer (S 98 + 1).toNat 0 h2 (by omega) ⟨by rw [e2, st_same]; rfl, fun k x hk => by cases hk⟩ (fun b hb => by rw [e2]; exact st_row _ _ _ (by omega))
/-- FROMs and timers are laid, LATEST and WEIGHT are to be -/
theorem c_X0_layOut {T : Int → Int} (sc : shCalls w c) (ss : shSetup w o) (hS : isS h o S) (ok : okS S) (hd : o + 7 < c ∨ c + 4 < o) (hn : h c 4 = n ∧ 0 ≤ n ∧ n ≤ wl w (c + 1)) (hF : ∀ k, 0 ≤ k → k < n → (h (c + 1) k = F k ∧ h (c + 4) k = T k) ∧ (0 ≤ F k ∧ F k ≤ 300) ∧ (0 ≤ T k ∧ T k < S 97)) : CV mX0_layOut [vR c, vR o] w h (fun h' => (∀ k, 0 ≤ k → k < n → h' (c + 2) k = min (F k + slk S (S (24 + T k))) (S 98) ∧ h' (c + 3) k = wgt S (S (24 + T k))) ∧ ∀ b, b ≠ c + 2 → b ≠ c + 3 → h' b = h b) := by
  obtain ⟨s0, f0, f1, f2, f3, ⟨t1, t2, t3, t4⟩, ⟨l2, l3, l4⟩, l1⟩ := id sc
  have hT := ok.2.1
  have hL := ok.2.2.1
  have hK := ok.1
  refine e_X0_layOut (r_X0_layOut_0 ?_)
  have key : ∀ (m : Nat) (i : Int) (h1 : AH), i + m = n → 0 ≤ i → (∀ k, 0 ≤ k → k < i → h1 (c + 2) k = min (F k + slk S (S (24 + T k))) (S 98) ∧ h1 (c + 3) k = wgt S (S (24 + T k))) → (∀ b, b ≠ c + 2 → b ≠ c + 3 → h1 b = h b) → XV mX0_layOut 2 [some (vR c), some (vR o), some (vI i), none] [] w h1 (fun h' => (∀ k, 0 ≤ k → k < n → h' (c + 2) k = min (F k + slk S (S (24 + T k))) (S 98) ∧ h' (c + 3) k = wgt S (S (24 + T k))) ∧ ∀ b, b ≠ c + 2 → b ≠ c + 3 → h' b = h b) := by
    intro m
    induction m with
    | zero =>
      intro i h1 hi h0 hl hf
      refine r_X0_layOut_2 ?_
      rw [hf c (by omega) (by omega), hn.1]
      exact ⟨s0, by omega, by omega, fun q => ⟨fun k a b => hl k a (by omega), hf⟩, fun q => absurd q (by omega)⟩
    | succ m ih =>
      intro i h1 hi h0 hl hf
      have hS1 := isS_frame hS (h' := h1) (fun b q1 q2 => hf b (by omega) (by omega))
      obtain ⟨⟨g1, g2⟩, g3, g4⟩ := hF i (by omega) (by omega)
      obtain ⟨b1, -, -⟩ := ok.2.2.2.2.2.2 (T i) g4.1 g4.2
      obtain ⟨d1, -, -⟩ := hS1.2.2.2.2.2.2 (T i) g4.1 g4.2
      have sl := slk_r ok b1.1 b1.2
      have sw := wgt_r ok b1.1 b1.2
      refine r_X0_layOut_2 ?_
      rw [f0, f1, f2, f3, hf c (by omega) (by omega), hf (c + 1) (by omega) (by omega), hf (c + 4) (by omega) (by omega), hn.1, g1, g2, hS1.2.1, d1, if_pos ⟨g4.1, g4.2⟩]
      refine ⟨s0, by omega, by omega, fun q => absurd q (by omega), fun q => ⟨t4, by omega, by omega, ss.1, ss, by omega, by omega, ?_⟩⟩
      rintro y rfl
      refine ⟨t1, by omega, (c_X5_slackOf ss hS1 ok (Or.inr b1)).eq ?_⟩
      rw [hS1.2.2.1]
      refine ⟨by omega, by omega, t2, by omega, ?_⟩
      intro h3 e3
      have hS3 : isS h3 o S := isS_frame hS1 (fun b q1 q2 => by rw [e3]; exact st_row _ _ _ (by omega))
      refine (c_X5_weightOf ss hS3 ok (Or.inr b1)).eq ?_
      refine ⟨t3, by omega, ?_⟩
      intro h5 e5
      refine ih (i + 1) h5 (by omega) (by omega) (fun k k0 k1 => ?_) (fun b q1 q2 => ?_)
      · by_cases ek : k = i
        · subst ek
          rw [e5, st_cell _ _ _ _ (show c + 2 ≠ c + 3 by omega), e3, st_same, st_same]
          exact ⟨rfl, rfl⟩
        · rw [e5, st_slot _ _ _ _ ek, st_slot _ _ _ _ ek, e3, st_slot _ _ _ _ ek, st_slot _ _ _ _ ek]
          exact hl k k0 (by omega)
      · rw [e5, st_row _ _ _ q2, e3, st_row _ _ _ q1]
        exact hf b q1 q2
  exact key n.toNat 0 h (by omega) (by omega) (fun k a b => by omega) (fun b _ _ => rfl)
theorem c_X0_firstDueAt {a b : Int} (sc : shCalls w c) (hC : isC w h c n F L W) (ok : okC n F L W) (ha : inR a) (hb : inR b) : CI mX0_firstDueAt [vR c, vI a, vI b] w h (fun x h' => fstP (fun k => b < F k ∧ L k = a) n x ∧ h' = h) := by
  obtain ⟨s0, f0, f1, f2, f3, ⟨t1, t2, t3, t4⟩, ⟨l2, l3, l4⟩, l1⟩ := id sc
  have hn := ok.1
  have hc := hC.1
  refine e_X0_firstDueAt (r_X0_firstDueAt_0 ?_)
  have key : ∀ (m : Nat) (i : Int), i + m = n → 0 ≤ i → (∀ j, 0 ≤ j → j < i → ¬ (b < F j ∧ L j = a)) → XI mX0_firstDueAt 2 [some (vR c), some (vI a), some (vI b), some (vI i)] [] w h (fun x h' => fstP (fun k => b < F k ∧ L k = a) n x ∧ h' = h) := by
    intro m
    induction m with
    | zero =>
      intro i hi h0 hl
      refine r_X0_firstDueAt_2 ?_
      exact ⟨s0, by omega, by omega, fun q => ⟨Or.inl ⟨rfl, fun j j0 j1 => hl j j0 (by omega)⟩, rfl⟩, fun q => absurd q (by omega)⟩
    | succ m ih =>
      intro i hi h0 hl
      obtain ⟨g1, g2, g3⟩ := hC.2 i (by omega) (by omega)
      obtain ⟨b1, b2⟩ := ok.2.1 i (by omega) (by omega)
      have nx : ¬ (b < F i ∧ L i = a) → XI mX0_firstDueAt 2 [some (vR c), some (vI a), some (vI b), some (vI (i + 1))] [] w h (fun x h' => fstP (fun k => b < F k ∧ L k = a) n x ∧ h' = h) := fun q => ih (i + 1) (by omega) (by omega) (fun j j0 j1 => by
        by_cases e : j = i
        · rw [e]; exact q
        · exact hl j j0 (by omega))
      refine r_X0_firstDueAt_2 ?_
      rw [f0, f1, g1, g2]
      exact ⟨s0, by omega, by omega, fun q => absurd q (by omega), fun q => ⟨t1, by omega, by omega, by omega, hb, fun q2 => nx (by omega), fun q2 => ⟨t2, by omega, by omega, ha, fun q3 => nx (by omega), fun q3 => ⟨Or.inr ⟨⟨h0, by omega, by omega, q3⟩, hl⟩, rfl⟩⟩⟩⟩
  exact key n.toNat 0 (by omega) (by omega) (fun j a b => by omega)
end
