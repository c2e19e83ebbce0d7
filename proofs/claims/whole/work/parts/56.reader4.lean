section
variable {w : WS} {h : AH} {n p o : Int} {B S N : Int → Int}
theorem c_X3_classLine (sA : shA w) (P : lnP h o n B S N p) : CI mX3_classLine [vR 2, vR o] w h (fun x h' => x = (if (pCls n B S N p).1 = 0 then 1 else 0) ∧ lnR h h' o n B (pCls n B S N p)) := by
  obtain ⟨ho, tp, tk, p0, ⟨hf, hp⟩, hS, hN, ok, oN⟩ := P
  have a0 := tkQ_r (B := B) p0
  have b0 := tkE_r (B := B) p0
  have a1 := tkQ_r (B := B) (p := tkE n B p) (n := n) (by omega)
  have b1 := tkE_r (B := B) (p := tkE n B p) (n := n) (by omega)
  have h96 := ok.1
  have h97 := ok.2.1
  have at148F : ∀ (f pl x2 x3 x4 x5 : Int) (h3 : AH), f ≠ 0 → inR f → h3 2 1 = f → h3 2 2 = pl → h3 3 1 = n → (∀ b, b ≠ 2 → b ≠ 3 → h3 b = h b) → (pCls n B S N p).1 = f → (pCls n B S N p).2.1 = pl → XI mX3_classLine 148 [some (vR 2), some (vR o), some (vI x2), some (vI x3), some (vI x4), some (vI x5)] [] w h3 (fun x h' => x = (if (pCls n B S N p).1 = 0 then 1 else 0) ∧ lnR h h' o n B (pCls n B S N p)) := by
    intro f pl x2 x3 x4 x5 h3 hf0 hfr g1 g2 g3 fr e1 e2
    refine r_X3_classLine_148 sA ⟨by omega, fun c => absurd c (by omega), fun c => ⟨by rw [e1, if_neg hf0], lnR_f hf0 e1 e2 g1 g2 fr g3⟩⟩
  have at117F : ∀ (f pl q x2 x3 x4 : Int) (h3 : AH), f ≠ 0 → inR f → h3 2 1 = f → h3 2 2 = pl → isTk h3 3 n B q → (0 ≤ q ∧ q ≤ n) → (∀ b, b ≠ 2 → b ≠ 3 → h3 b = h b) → (pCls n B S N p).1 = f → (pCls n B S N p).2.1 = pl → XI mX3_classLine 117 [some (vR 2), some (vR o), some (vI x2), some (vI x3), some (vI x4), none] [] w h3 (fun x h' => x = (if (pCls n B S N p).1 = 0 then 1 else 0) ∧ lnR h h' o n B (pCls n B S N p)) := by
    intro f pl q x2 x3 x4 h3 hf0 hfr g1 g2 tk3 q0 fr e1 e2
    obtain ⟨r1, r2, r3⟩ := isTk_r tk3
    refine r_X3_classLine_117 sA ⟨r1, r2, fun c => at148F f pl _ _ _ _ h3 hf0 hfr g1 g2 tk3.1 fr e1 e2, fun c => (c_adv sA (tpO_f tp (fr 4 (by decide) (by decide))) tk3 q0).mono ?_⟩
    rintro h4 ⟨u1, u2⟩
    have v1 : h4 2 1 = f := by rw [u2 2 (by decide)]; exact g1
    refine (c_X3_takeNumberF sA (by omega) (by omega)).eq ?_
    exact at148F f pl _ _ _ _ h4 hf0 hfr v1 (by rw [u2 2 (by decide)]; exact g2) u1.1 (fun b b1 b2 => (u2 b b2).trans (fr b b1 b2)) e1 e2
  have at86F : ∀ (f pl q x2 x3 : Int) (h3 : AH), f ≠ 0 → inR f → h3 2 1 = f → h3 2 2 = pl → isTk h3 3 n B q → (0 ≤ q ∧ q ≤ n) → (∀ b, b ≠ 2 → b ≠ 3 → h3 b = h b) → (pCls n B S N p).1 = f → (pCls n B S N p).2.1 = pl → XI mX3_classLine 86 [some (vR 2), some (vR o), some (vI x2), some (vI x3), none, none] [] w h3 (fun x h' => x = (if (pCls n B S N p).1 = 0 then 1 else 0) ∧ lnR h h' o n B (pCls n B S N p)) := by
    intro f pl q x2 x3 h3 hf0 hfr g1 g2 tk3 q0 fr e1 e2
    obtain ⟨r1, r2, r3⟩ := isTk_r tk3
    refine r_X3_classLine_86 sA ⟨r1, r2, fun c => at117F f pl q _ _ _ h3 hf0 hfr g1 g2 tk3 q0 fr e1 e2, fun c => (c_adv sA (tpO_f tp (fr 4 (by decide) (by decide))) tk3 q0).mono ?_⟩
    rintro h4 ⟨u1, u2⟩
    have v1 : h4 2 1 = f := by rw [u2 2 (by decide)]; exact g1
    have y1 := tkQ_r (B := B) q0
    have y2 := tkE_r (B := B) q0
    refine (c_X3_takeNumberF sA (by omega) (by omega)).eq ?_
    exact at117F f pl _ _ _ _ h4 hf0 hfr v1 (by rw [u2 2 (by decide)]; exact g2) u1 (by omega) (fun b b1 b2 => (u2 b b2).trans (fr b b1 b2)) e1 e2
  have at148 : ∀ (q v a b c : Int) (h3 : AH), h3 2 1 = 0 → h3 2 2 = -1 → isTk h3 3 n B q → (∀ b, b ≠ 2 → b ≠ 3 → h3 b = h b) → S 96 < 8 → pCls n B S N p = (0, -1, q, addK S a b c, up N (S 96) v) → XI mX3_classLine 148 [some (vR 2), some (vR o), some (vI v), some (vI a), some (vI b), some (vI c)] [] w h3 (fun x h' => x = (if (pCls n B S N p).1 = 0 then 1 else 0) ∧ lnR h h' o n B (pCls n B S N p)) := by
    intro q v a b c h3 g1 g2 tk3 fr h8 er
    rw [er]
    have hS3 : isS h3 o S := isS_frame hS (fun b b1 b2 => fr b (by omega) (by omega))
    refine r_X3_classLine_148 sA ⟨by omega, fun _ => ⟨(fa_set sA ho).1, (c_X5_addKind (fa_set sA ho) (by rw [hS3.1]; omega)).mono ?_⟩, fun c => absurd g1 c⟩
    intro h9 e9
    obtain ⟨d1, d2, d3⟩ := isS_addK hS3 ok h8 e9
    refine ⟨(if_pos rfl).symm, by rw [d3 2 (by omega), g1], by rw [d3 2 (by omega), g2], fun _ => ⟨isTk_f tk3 (d3 3 (by omega)), d1, fun j j0 j1 => ?_⟩, fun b b1 b2 b3 => (d3 b b3).trans (fr b b1 b2), by rw [d3 3 (by omega)]; exact tk3.1⟩
    rw [d2]
    dsimp only at j1 ⊢
    rw [addK_n] at j1
    by_cases z : j = S 96
    · rw [z, up_s, up_s]
    · rw [up_o _ _ z, up_o _ _ z, fr (o + 1) (by omega) (by omega)]
      exact hN j j0 (by omega)
  have at117 : ∀ (q v a b : Int) (h3 : AH), h3 2 1 = 0 → h3 2 2 = -1 → isTk h3 3 n B q → (0 ≤ q ∧ q ≤ n) → (∀ b, b ≠ 2 → b ≠ 3 → h3 b = h b) → S 96 < 8 → pCls n B S N p = pCls3 n B S N v a b q → XI mX3_classLine 117 [some (vR 2), some (vR o), some (vI v), some (vI a), some (vI b), none] [] w h3 (fun x h' => x = (if (pCls n B S N p).1 = 0 then 1 else 0) ∧ lnR h h' o n B (pCls n B S N p)) := by
    intro q v a b h3 g1 g2 tk3 q0 fr h8 er
    obtain ⟨r1, r2, r3⟩ := isTk_r tk3
    have y1 := tkQ_r (B := B) q0
    have y2 := tkE_r (B := B) q0
    refine r_X3_classLine_117 sA ⟨r1, r2, fun c => ?_, fun c => (c_adv sA (tpO_f tp (fr 4 (by decide) (by decide))) tk3 q0).mono ?_⟩
    · have eo : pOpt n B 777297172 9 q = (0, -1, q, -1) := by rw [pOpt, if_neg (fun z => c (by rw [tk3.2.2.2.1, tk3.2.2.2.2]; exact z))]
      exact at148 q v a b (-1) h3 g1 g2 tk3 fr h8 (by rw [er, pCls3, eo])
    · rintro h4 ⟨u1, u2⟩
      have eo : pOpt n B 777297172 9 q = pNum n B 0 9 (tkE n B q) := by rw [pOpt, if_pos (by rw [isw, ← tk3.2.2.2.1, ← tk3.2.2.2.2]; exact c)]
      have fo4 : ∀ b, b ≠ 2 → b ≠ 3 → h4 b = h b := fun b b1 b2 => (u2 b b2).trans (fr b b1 b2)
      refine (c_X3_takeNumber sA (tpO_f tp (fo4 4 (by decide) (by decide))) u1 (by omega) (by rw [u2 2 (by decide)]; exact g1) (by rw [u2 2 (by decide)]; exact g2) (by decide) (by decide)).mono ?_
      rintro x5 h5 ⟨ex, ⟨v1, v2, v3⟩, v4⟩
      obtain ⟨g3, g4⟩ := pNum_g (B := B) (p := tkE n B q) (n := n) 0 9 (by omega)
      have fo5 : ∀ b, b ≠ 2 → b ≠ 3 → h5 b = h b := fun b b1 b2 => (v4 b b1 b2).trans (fo4 b b1 b2)
      by_cases z : (pNum n B 0 9 (tkE n B q)).1 = 0
      · have y := g4 z
        exact at148 _ v a b x5 h5 (by omega) (by omega) v3 fo5 h8 (by rw [er, pCls3, eo, ex, z, y.2.2])
      · exact at148F _ _ _ _ _ _ h5 z (by omega) v1 v2 v3.1 fo5 (by rw [er, pCls3, eo]) (by rw [er, pCls3, eo])
  have at86 : ∀ (q v a : Int) (h3 : AH), h3 2 1 = 0 → h3 2 2 = -1 → isTk h3 3 n B q → (0 ≤ q ∧ q ≤ n) → (∀ b, b ≠ 2 → b ≠ 3 → h3 b = h b) → S 96 < 8 → pCls n B S N p = pCls2 n B S N v a q → XI mX3_classLine 86 [some (vR 2), some (vR o), some (vI v), some (vI a), none, none] [] w h3 (fun x h' => x = (if (pCls n B S N p).1 = 0 then 1 else 0) ∧ lnR h h' o n B (pCls n B S N p)) := by
    intro q v a h3 g1 g2 tk3 q0 fr h8 er
    obtain ⟨r1, r2, r3⟩ := isTk_r tk3
    have y1 := tkQ_r (B := B) q0
    have y2 := tkE_r (B := B) q0
    refine r_X3_classLine_86 sA ⟨r1, r2, fun c => ?_, fun c => (c_adv sA (tpO_f tp (fr 4 (by decide) (by decide))) tk3 q0).mono ?_⟩
    · have eo : pOpt n B 20317291 99 q = (0, -1, q, -1) := by rw [pOpt, if_neg (fun z => c (by rw [tk3.2.2.2.1, tk3.2.2.2.2]; exact z))]
      exact at117 q v a (-1) h3 g1 g2 tk3 q0 fr h8 (by rw [er, pCls2, eo, if_neg (fun z => z rfl)])
    · rintro h4 ⟨u1, u2⟩
      have eo : pOpt n B 20317291 99 q = pNum n B 0 99 (tkE n B q) := by rw [pOpt, if_pos (by rw [isw, ← tk3.2.2.2.1, ← tk3.2.2.2.2]; exact c)]
      have fo4 : ∀ b, b ≠ 2 → b ≠ 3 → h4 b = h b := fun b b1 b2 => (u2 b b2).trans (fr b b1 b2)
      refine (c_X3_takeNumber sA (tpO_f tp (fo4 4 (by decide) (by decide))) u1 (by omega) (by rw [u2 2 (by decide)]; exact g1) (by rw [u2 2 (by decide)]; exact g2) (by decide) (by decide)).mono ?_
      rintro x5 h5 ⟨ex, ⟨v1, v2, v3⟩, v4⟩
      obtain ⟨g3, g4⟩ := pNum_g (B := B) (p := tkE n B q) (n := n) 0 99 (by omega)
      have fo5 : ∀ b, b ≠ 2 → b ≠ 3 → h5 b = h b := fun b b1 b2 => (v4 b b1 b2).trans (fo4 b b1 b2)
      by_cases z : (pNum n B 0 99 (tkE n B q)).1 = 0
      · have y := g4 z
        exact at117 _ v a x5 h5 (by omega) (by omega) v3 (by omega) fo5 h8 (by rw [er, pCls2, eo, if_neg (fun k => k z), ex])
      · exact at117F _ _ _ _ _ _ h5 z (by omega) v1 v2 v3 (by omega) fo5 (by rw [er, pCls2, eo, if_pos z]) (by rw [er, pCls2, eo, if_pos z])
  have err : ∀ (f pl : Int) (h3 : AH), f ≠ 0 → h3 2 1 = f → h3 2 2 = pl → (∀ b, b ≠ 2 → b ≠ 3 → h3 b = h b) → h3 3 1 = n → pCls n B S N p = (f, pl, p, S, N) → (0 : Int) = (if (pCls n B S N p).1 = 0 then 1 else 0) ∧ lnR h h3 o n B (pCls n B S N p) := by
    intro f pl h3 hf0 g1 g2 fr g3 er
    rw [er]
    exact ⟨(if_neg hf0).symm, lnR_f hf0 rfl rfl g1 g2 fr g3⟩
  refine e_X3_classLine (r_X3_classLine_0 sA ?_)
  rw [hS.1]
  refine ⟨(fa_set sA ho).1, by omega, fun c => (c_adv sA tp tk p0).mono ?_, fun c h24 e24 => ?_⟩
  · rintro h3 ⟨tk3, f3⟩
    obtain ⟨r1, r2, r3⟩ := isTk_r tk3
    obtain ⟨k1, k2, k3, k4, k5⟩ := id tk3
    refine ⟨r1, r2, fun c1 => ?_, fun c1 h20 e20 => ?_⟩
    · have nm : nmA n B (tkE n B p) := by rw [nmA, ← k4, ← k5]; exact c1
      have ef : fnd (h3 (o + 1)) (h3 3 5) (h3 o 4).toNat 0 = fnd N (tkV n B (tkE n B p)) (S 96).toNat 0 := by
        rw [f3 (o + 1) (by omega), f3 o (by omega), hS.1, k5]
        exact fnd_eq _ _ (fun k q1 q2 => by rw [hN k (by omega) (by omega)])
      have fr := fnd_r (nm := N) (v := tkV n B (tkE n B p)) (S 96).toNat 0
      refine (c_X5_kindNamed (fa_set sA ho) (by rw [f3 o (by omega), hS.1]; exact ok.1) (fun i i0 i1 => ?_) (r2 c1.1)).mono ?_
      · rw [f3 o (by omega), hS.1] at i1
        rw [f3 (o + 1) (by omega), hN i i0 i1]; exact okN_r oN i0 i1
      · rintro x h6 ⟨ex, rfl⟩
        rw [ef] at ex
        refine ⟨by omega, fun c2 => (c_adv sA (tpO_f tp (f3 4 (by decide))) tk3 (by omega)).mono ?_, fun c2 h16 e16 => ?_⟩
        · rintro h9 ⟨tk9, f9⟩
          obtain ⟨s1, s2, s3⟩ := isTk_r tk9
          have fo9 : ∀ b, b ≠ 2 → b ≠ 3 → h9 b = h b := fun b b1 b2 => (f9 b b2).trans (f3 b b2)
          have m1 : h9 2 1 = 0 := by rw [f9 2 (by decide), f3 2 (by decide)]; exact hf
          have m2 : h9 2 2 = -1 := by rw [f9 2 (by decide), f3 2 (by decide)]; exact hp
          have er : pCls n B S N p = pCls1 n B S N (tkV n B (tkE n B p)) (tkE n B (tkE n B p)) := by rw [pCls, if_neg (by omega), if_neg (fun z => z nm), if_neg (by omega)]
          rw [k5]
          refine ⟨s1, s2, fun c3 => ?_, fun c3 => ?_⟩
          · have eo : pOf n B N (S 96) (tkE n B (tkE n B p)) = (0, -1, tkE n B (tkE n B p), -1) := by rw [pOf, if_neg (fun z => c3 (by rw [tk9.2.2.2.1, tk9.2.2.2.2]; exact z))]
            exact at86 _ _ (-1) h9 m1 m2 tk9 (by omega) fo9 (by omega) (by rw [er, pCls1, eo, if_neg (fun z => z rfl)])
          · have eo : pOf n B N (S 96) (tkE n B (tkE n B p)) = pKnd n B N (S 96) (tkE n B (tkE n B (tkE n B p))) := by rw [pOf, if_pos (by rw [isw, ← tk9.2.2.2.1, ← tk9.2.2.2.2]; exact c3)]
            have y1 := tkQ_r (B := B) (p := tkE n B (tkE n B p)) (n := n) (by omega)
            have y2 := tkE_r (B := B) (p := tkE n B (tkE n B p)) (n := n) (by omega)
            refine (c_X3_takeKind (N := N) sA ho (tpO_f tp (fo9 4 (by decide) (by decide))) tk9 (by omega) m1 m2 (by rw [fo9 o (by omega) (by omega)]; exact hS.1) ok.1 (fun k k0 k1 => ⟨by rw [fo9 (o + 1) (by omega) (by omega)]; exact hN k k0 k1, okN_r oN k0 k1⟩)).mono ?_
            rintro x13 h12 ⟨ex2, ⟨u1, u2, u3⟩, u4⟩
            obtain ⟨g3, g4⟩ := pKnd_g (B := B) (N := N) (p := tkE n B (tkE n B (tkE n B p))) (n := n) (c := S 96) ok.1.1 (by omega)
            have fo12 : ∀ b, b ≠ 2 → b ≠ 3 → h12 b = h b := fun b b1 b2 => (u4 b b1 b2).trans (fo9 b b1 b2)
            by_cases z : (pKnd n B N (S 96) (tkE n B (tkE n B (tkE n B p)))).1 = 0
            · have y := g4 z
              exact at86 _ _ x13 h12 (by omega) (by omega) u3 (by omega) fo12 (by omega) (by rw [er, pCls1, eo, if_neg (fun k => k z), ex2])
            · exact at86F _ _ _ _ _ h12 z (by omega) u1 u2 u3 (by omega) fo12 (by rw [er, pCls1, eo, if_pos z]) (by rw [er, pCls1, eo, if_pos z])
        · have f := failH_f h6 2
          rw [e16]
          exact err 2 (tkQ n B (tkE n B p)) _ (by decide) f.1 (by rw [f.2.1]; exact k2) (fun b b1 b2 => (f.2.2 b b1).trans (f3 b b2)) (by rw [f.2.2 3 (by decide)]; exact k1) (by rw [pCls, if_neg (by omega), if_neg (fun z => z nm), if_pos (by omega)])
    · have f := failH_f h3 1
      rw [e20]
      exact err 1 (tkQ n B (tkE n B p)) _ (by decide) f.1 (by rw [f.2.1]; exact k2) (fun b b1 b2 => (f.2.2 b b1).trans (f3 b b2)) (by rw [f.2.2 3 (by decide)]; exact k1) (by rw [pCls, if_neg (by omega), if_pos (fun z => c1 (by rw [nmA, ← k4, ← k5] at z; exact z))])
  · have f := failH_f h 4
    rw [e24]
    exact err 4 (tkQ n B p) _ (by decide) f.1 (by rw [f.2.1]; exact tk.2.1) (fun b b1 _ => f.2.2 b b1) (by rw [f.2.2 3 (by decide)]; exact tk.1) (by rw [pCls, if_pos (by omega)])
end
