/-- the wakes of a plan -/
def planS (n : Int) (F L W S : Int → Int) (plan m : Int) (t : Int → Int) : Prop := (plan = 0 ∧ fewS n F L m t) ∨ ((plan = 1 ∨ plan = 2) ∧ dpS n F L (stpS n F W (S 99) (S 100) (plan - 1)) (S 98) m t) ∨ ((3 ≤ plan ∧ plan ≤ 5) ∧ liveS n F L W (plan - 3) (S 99) (S 98) m t)
theorem planS_okW {n : Int} {F L W S : Int → Int} (ok : okC n F L W) (okS : okS S) (hL : ∀ k, 0 ≤ k → k < n → L k ≤ S 98) {plan m : Int} {t : Int → Int} (a : planS n F L W S plan m t) : okW m t := by
  have hlen := okS.2.2.1
  rcases a with ⟨-, a⟩ | ⟨-, a⟩ | ⟨-, a⟩
  · exact fewS_okW ok a
  · exact dpS_okW ok hL (by omega) a
  · exact liveS_okW (by omega) a
theorem planS_kept {n : Int} {F L W S : Int → Int} (ok : okC n F L W) (okS : okS S) (hL : ∀ k, 0 ≤ k → k < n → L k ≤ S 98) {plan m : Int} {t : Int → Int} (a : planS n F L W S plan m t) : kept n F L m t := by
  have hlen := okS.2.2.1
  rcases a with ⟨-, a⟩ | ⟨-, a⟩ | ⟨-, a⟩
  · exact fewS_kept ok a
  · exact dpS_kept ok hL (by omega) a
  · exact liveS_kept ok hL a
theorem planS_one {n : Int} {F L W S : Int → Int} (ok : okC n F L W) (okS : okS S) (hL : ∀ k, 0 ≤ k → k < n → L k ≤ S 98) {plan m m' : Int} {t t' : Int → Int} (a : planS n F L W S plan m t) (b : planS n F L W S plan m' t') : m = m' ∧ ∀ i, 0 ≤ i → i < m → t i = t' i := by
  have hlen := okS.2.2.1
  rcases a with ⟨a0, a⟩ | ⟨a0, a⟩ | ⟨a0, a⟩ <;> rcases b with ⟨b0, b⟩ | ⟨b0, b⟩ | ⟨b0, b⟩
  · exact fewS_one ok a b
  · omega
  · omega
  · omega
  · exact dpS_one ok hL (by omega) a b
  · omega
  · omega
  · omega
  · exact liveS_one a b
section
variable {w : WS} {h : AH} {pl v c o n : Int} {F L W S : Int → Int}
theorem c_X2_follow {g : Int → Int → Int} {len : Int} (sp : shPlan w pl) (sw : shWakes w v) (ok : okC n F L W) (hL : ∀ k, 0 ≤ k → k < n → L k ≤ len) (hlen : 0 ≤ len ∧ len ≤ 300) (ht : tabR n F L g len h pl (-2)) (hv : h v 1 = 0) (hcap : n ≤ wl w (v + 1)) (hd : v + 1 < pl ∨ pl + 3 < v) : CV mX2_follow [vR pl, vR v] w h (fun h' => folS (tN h pl) (h' v 1) (h' (v + 1)) ∧ h' v 1 ≤ n ∧ ∀ b, b ≠ v → b ≠ v + 1 → h' b = h b) := by
  obtain ⟨s0, f0, f1, f2, ⟨t1, t2, t3⟩, l1, l2, l3⟩ := id sp
  have hn := ok.1
  have n1 : pl + 3 ≠ v ∧ pl + 3 ≠ v + 1 := by omega
  have key : ∀ (d : Nat) (h1 : AH), h1 v 1 + d = n → 0 ≤ h1 v 1 → (-1 ≤ pv (h1 (v + 1)) (h1 v 1) ∧ pv (h1 (v + 1)) (h1 v 1) ≤ len) → (h1 v 1 = 0 ∨ ∃ k, (h1 v 1 - 1 ≤ k ∧ k < n) ∧ F k ≤ pv (h1 (v + 1)) (h1 v 1)) → (∀ i, 0 ≤ i → i < h1 v 1 → h1 (v + 1) i = tN h pl (pv (h1 (v + 1)) i) ∧ h1 (v + 1) i ≠ -1) → (∀ b, b ≠ v → b ≠ v + 1 → h1 b = h b) → ∀ a2, a2 = pv (h1 (v + 1)) (h1 v 1) + 1 → XV mX2_follow 4 [some (vR pl), some (vR v), some (vI a2), some (vI (h1 v 1)), none] [] w h1 (fun h' => folS (tN h pl) (h' v 1) (h' (v + 1)) ∧ h' v 1 ≤ n ∧ ∀ b, b ≠ v → b ≠ v + 1 → h' b = h b) := by
    intro d
    induction d with
    | zero =>
      intro h1 hd1 hm hp hk hi hf a2 ea
      obtain ⟨x1, x2, x3, x4⟩ := ht (pv (h1 (v + 1)) (h1 v 1)) (by omega) hp.2
      have en : tN h pl (pv (h1 (v + 1)) (h1 v 1)) = -1 := by
        by_cases e : tN h pl (pv (h1 (v + 1)) (h1 v 1)) = -1
        · exact e
        · obtain ⟨k, k0, k1, k2⟩ := x2 e
          rcases hk with hk | ⟨j, j1, j2⟩
          · omega
          · have : j < k := by
              by_cases c : j < k
              · exact c
              · have := ok.2.2 k j k0.1 (by omega) j1.2; omega
            omega
      have e3 : h1 (pl + 3) a2 = -1 := by
        rw [hf (pl + 3) n1.1 n1.2, ea]; exact en
      refine r_X2_follow_4 ?_
      rw [f2, e3]
      exact ⟨s0, t3, by omega, by omega, fun q => absurd q (by omega), fun q => ⟨by omega, fun q2 => absurd q2 (by omega), fun q2 => ⟨fun q3 => absurd q3 (by omega), fun q3 => ⟨by omega, by omega, by decide, fun q4 => absurd rfl q4, fun q4 => ⟨⟨hm, hi, en⟩, by omega, hf⟩⟩⟩⟩⟩
    | succ d ih =>
      intro h1 hd1 hm hp hk hi hf a2 ea
      obtain ⟨x1, x2, x3, x4⟩ := ht (pv (h1 (v + 1)) (h1 v 1)) (by omega) hp.2
      have e3 : h1 (pl + 3) a2 = tN h pl (pv (h1 (v + 1)) (h1 v 1)) := by
        rw [hf (pl + 3) n1.1 n1.2, ea]
      refine r_X2_follow_4 ?_
      rw [f2, e3]
      have hx : tN h pl (pv (h1 (v + 1)) (h1 v 1)) = -1 ∨ (pv (h1 (v + 1)) (h1 v 1) < tN h pl (pv (h1 (v + 1)) (h1 v 1)) ∧ tN h pl (pv (h1 (v + 1)) (h1 v 1)) ≤ len) := by
        rcases x1 with ⟨-, x⟩ | ⟨dd, d0, dl, db⟩
        · exact Or.inl x.2.2
        · right
          have b1 := db.1
          rcases dl with dl | ⟨⟨k, k1, k2⟩, -⟩
          · exact absurd dl.1 d0
          · have := hL k k1.1.1 k1.1.2; omega
      refine ⟨s0, t3, by omega, by omega, fun q => absurd q (by omega), fun q => ⟨by omega, fun q2 => absurd q2 (by omega), fun q2 => ⟨fun q3 => absurd q3 (by omega), fun q3 => ⟨by omega, by omega, by omega, fun q4 => ⟨sw.1, (c_X7_add sw ⟨hm, by omega⟩).mono ?_⟩, fun q4 => ⟨⟨hm, hi, q4⟩, by omega, hf⟩⟩⟩⟩⟩
      intro h2 e2
      obtain ⟨a1, b2, b3, b4⟩ := addW e2
      obtain ⟨k, k0, k1, k2⟩ := x2 q4
      have ec : ∀ i : Int, 0 ≤ i → i < h1 v 1 → h2 (v + 1) i = h1 (v + 1) i := fun i _ q => b3 i (by omega)
      have ep : pv (h2 (v + 1)) (h1 v 1 + 1) = tN h pl (pv (h1 (v + 1)) (h1 v 1)) := by
        unfold pv
        rw [if_neg (by omega), show h1 v 1 + 1 - 1 = h1 v 1 by omega, b2]
        rfl
      have hkk : h1 v 1 ≤ k := by
        rcases hk with hk | ⟨j, j1, j2⟩
        · omega
        · have : j < k := by
            by_cases c : j < k
            · exact c
            · have := ok.2.2 k j k0.1 (by omega) j1.2; omega
          omega
      have goal := ih h2 (by omega) (by omega) (by rw [a1, ep]; omega) (Or.inr ⟨k, by omega, by rw [a1, ep]; exact k2⟩) ?_ (fun b y1 y2 => (b4 b y1 y2).trans (hf b y1 y2)) (tN h pl (pv (h1 (v + 1)) (h1 v 1)) + 1) (by rw [a1, ep])
      · rw [a1] at goal; exact goal
      · rw [a1]
        intro i i0 i1
        by_cases ei : i = h1 v 1
        · subst ei
          rw [b2, pv_congr ec]
          exact ⟨rfl, q4⟩
        · have := hi i i0 (by omega)
          rw [b3 i ei, pv_congr (fun j j0 j1 => ec j j0 (by omega))]
          exact this
  refine e_X2_follow (r_X2_follow_0 ?_)
  have ep : pv (h (v + 1)) (h v 1) = -1 := by rw [hv]; unfold pv; rw [if_pos (by omega)]
  have := key n.toNat h (by omega) (by omega) (by rw [ep]; omega) (Or.inl hv) (fun i i0 i1 => by omega) (fun b _ _ => rfl) 0 (by rw [ep]; rfl)
  rw [hv] at this
  exact this
theorem c_X2_make {plan : Int} (sp : shPlan w pl) (sw : shWakes w v) (sc : shCalls w c) (ss : shSetup w o) (hC : isC w h c n F L W) (ok : okC n F L W) (hS : isS h o S) (okS : okS S) (hL : ∀ k, 0 ≤ k → k < n → L k ≤ S 98) (hcap : n ≤ wl w (v + 1)) (hpl : 0 ≤ plan ∧ plan ≤ 5) (d1 : pl + 3 < c ∨ c + 4 < pl) (d2 : pl + 3 < o ∨ o + 7 < pl) (d3 : v + 1 < pl ∨ pl + 3 < v) (d4 : v + 1 < c ∨ c + 4 < v) (d5 : v + 1 < o ∨ o + 7 < v) : CV mX2_make [vR pl, vI plan, vR c, vR o, vR v] w h (fun h' => planS n F L W S plan (h' v 1) (h' (v + 1)) ∧ h' v 1 ≤ n ∧ ∀ b, (b < pl ∨ pl + 3 < b) → b ≠ v → b ≠ v + 1 → h' b = h b) := by
  have hlen := okS.2.2.1
  have fr : ∀ b, b ≠ v → st h v 1 0 b = h b := fun b hb => st_row _ _ _ hb
  have hC1 := isC_frame hC (h' := st h v 1 0) (fun b b1 b2 => fr b (by omega))
  have hS1 := isS_frame hS (h' := st h v 1 0) (fun b b1 b2 => fr b (by omega))
  have hv : st h v 1 0 v 1 = 0 := st_same _ _ _ _
  have dp : ∀ en, (en = 0 ∨ en = 1) → plan - 1 = en → CV mX2_solve [vR pl, vR c, vR o, vI en] w (st h v 1 0) (fun h7 => CV mX2_follow [vR pl, vR v] w h7 (fun h8 => planS n F L W S plan (h8 v 1) (h8 (v + 1)) ∧ h8 v 1 ≤ n ∧ ∀ b, (b < pl ∨ pl + 3 < b) → b ≠ v → b ≠ v + 1 → h8 b = h b)) := by
    intro en hen hpe
    refine (c_X2_solve sp sc ss hC1 ok hS1 okS hL hen d1 d2).mono ?_
    rintro h7 ⟨ht, hf⟩
    refine (c_X2_follow sp sw ok hL (by omega) ht (by rw [hf v (by omega)]; exact hv) hcap d3).mono ?_
    rintro h8 ⟨hfo, hm, hf8⟩
    refine ⟨Or.inr (Or.inl ⟨by omega, tC h7 pl, tM h7 pl, tN h7 pl, fun q q0 q1 => ?_, hfo⟩), hm, fun b b0 b1 b2 => (hf8 b b1 b2).trans ((hf b b0).trans (fr b b1))⟩
    rw [hpe]
    exact (ht q (by omega) q1).1
  refine e_X2_make (r_X2_make_0 ⟨sw.1, by omega, fun q => ⟨sp.1, ?_⟩, fun q => ⟨fun _ => ⟨sp.1, dp 0 (Or.inl rfl) (by omega)⟩, fun q2 => absurd q2 (by omega)⟩, fun q => ⟨fun q2 => absurd q q2, fun _ => ⟨sp.1, dp 1 (Or.inr rfl) (by omega)⟩⟩, fun q => ⟨sp.1, ?_⟩⟩)
  · refine (c_X2_makeFewest sw sc hC1 ok hv hcap d4).mono ?_
    rintro h' ⟨a, b, c⟩
    exact ⟨Or.inl ⟨q, a⟩, b, fun x x0 x1 x2 => (c x x1 x2).trans (fr x x1)⟩
  · refine (c_X2_makeLive sw sc ss hS1 okS hC1 ok (by omega) hv hcap d4 d5).mono ?_
    rintro h' ⟨a, b, c⟩
    exact ⟨Or.inr (Or.inr ⟨by omega, a⟩), b, fun x x0 x1 x2 => (c x x1 x2).trans (fr x x1)⟩
end
