section
variable {w : WS} {h : AH} {n p : Int} {B S N : Int → Int}
theorem c_X9_readsClass (sA : shA w) (P : rpI h n B S N (tkE n B p)) : CV mX9_readsClass [vR 65, vI (tkQ n B p)] w h (fun h' => rlR h h' n B (pCls n B S N p)) := by
  obtain ⟨T, M, p0, ⟨hg, hp⟩, ra, rn, ⟨ok, oN⟩, Qh⟩ := P
  have h97 := ok.2.1
  have k96 := ok.1
  have e197 : h 66 197 = S 96 := ra 96 (by decide) (by decide)
  have kn : ∀ h3 : AH, fP h h3 → h3 66 197 = S 96 ∧ ∀ k, 0 ≤ k → k < S 96 → h3 68 (8 + k) = c27 6 (N k) ∧ dg 6 (N k) := fun h3 f3 => ⟨by rw [f3.1 66 (by decide)]; exact e197, fun k k0 k1 => ⟨by rw [f3.1 68 (by decide)]; exact rn k k0 k1, oN k k0 k1⟩⟩
  -- behind a fault
  have at152F : ∀ (f pl v : Int) (h3 : AH), f ≠ 0 → h3 65 4 = f → h3 65 5 = pl → fR h h3 → S 96 < 8 → (pCls n B S N p).1 = f → (pCls n B S N p).2.1 = pl → XV mX9_readsClass 152 [some (vR 65), none, some (vI (S 96)), none, some (vL v), none] [] w h3 (fun h' => rlR h h' n B (pCls n B S N p)) := by
    intro f pl v h3 f0 g1 g2 fo h8 e1 e2
    refine r_X9_readsClass_152 sA ⟨by omega, by omega, fun h5 e5 h7 e7 => rlR_f f0 e1 e2 ?_ ?_ ?_⟩
    · rw [e7, st_cell _ _ _ _ (by decide), e5, st_cell _ _ _ _ (by decide)]; exact g1
    · rw [e7, st_cell _ _ _ _ (by decide), e5, st_cell _ _ _ _ (by decide)]; exact g2
    · rw [e7, e5]; exact fR_66 (fR_68 fo) (by omega)
  have at122F : ∀ (f pl v : Int) (h3 : AH), f ≠ 0 → inR f → h3 65 4 = f → h3 65 5 = pl → fR h h3 → S 96 < 8 → (pCls n B S N p).1 = f → (pCls n B S N p).2.1 = pl → XV mX9_readsClass 122 [some (vR 65), none, some (vI (S 96)), none, some (vL v), none] [] w h3 (fun h' => rlR h h' n B (pCls n B S N p)) := by
    intro f pl v h3 f0 fr g1 g2 fo h8 e1 e2
    refine r_X9_readsClass_122 sA ((c_X9_hasWordB sA (by omega) (by omega)).eq ⟨by decide, fun _ => ⟨by omega, by omega, fun h6 e6 => at152F f pl v h6 f0 ?_ ?_ ?_ h8 e1 e2⟩, fun z => absurd rfl z⟩)
    · rw [e6, st_cell _ _ _ _ (by decide)]; exact g1
    · rw [e6, st_cell _ _ _ _ (by decide)]; exact g2
    · rw [e6]; exact fR_66 fo (by omega)
  have at92F : ∀ (f pl v : Int) (h3 : AH), f ≠ 0 → inR f → h3 65 4 = f → h3 65 5 = pl → fR h h3 → S 96 < 8 → (pCls n B S N p).1 = f → (pCls n B S N p).2.1 = pl → XV mX9_readsClass 92 [some (vR 65), none, some (vI (S 96)), none, some (vL v), none] [] w h3 (fun h' => rlR h h' n B (pCls n B S N p)) := by
    intro f pl v h3 f0 fr g1 g2 fo h8 e1 e2
    refine r_X9_readsClass_92 sA ((c_X9_hasWordB sA (by omega) (by omega)).eq ⟨by decide, fun _ => ⟨by omega, by omega, fun h6 e6 => at122F f pl v h6 f0 fr ?_ ?_ ?_ h8 e1 e2⟩, fun z => absurd rfl z⟩)
    · rw [e6, st_cell _ _ _ _ (by decide)]; exact g1
    · rw [e6, st_cell _ _ _ _ (by decide)]; exact g2
    · rw [e6]; exact fR_66 fo (by omega)
  -- without
  have at152 : ∀ (q u a b c : Int) (h3 : AH), h3 65 4 = 0 → h3 65 5 = -1 → isTM h3 n B q → fR h h3 → h3 68 = h 68 → S 96 < 8 → (∀ j, 0 ≤ j → j < 101 → j ≠ S 96 → j ≠ 8 + S 96 → j ≠ 16 + S 96 → h3 66 (101 + j) = S j) → h3 66 (101 + S 96) = a → h3 66 (109 + S 96) = b → h3 66 (117 + S 96) = c → pCls n B S N p = (0, -1, q, addK S a b c, up N (S 96) u) → XV mX9_readsClass 152 [some (vR 65), none, some (vI (S 96)), none, some (vL (c27 6 u)), none] [] w h3 (fun h' => rlR h h' n B (pCls n B S N p)) := by
    intro q u a b c h3 g1 g2 M3 fo e68 h8 r0 r1 r2 r3 er
    rw [er]
    refine r_X9_readsClass_152 sA ⟨by omega, by omega, fun h5 e5 h7 e7 => ?_⟩
    have t5 : h5 66 = h3 66 := by rw [e5, st_row _ _ _ (by decide)]
    have e5' : h5 66 197 = S 96 := by rw [t5]; exact r0 96 (by omega) (by omega) (by omega) (by omega) (by omega)
    rw [e5'] at e7
    have ad := addK_1 (S := S) (a := a) (b := b) (c := c) ⟨k96.1, h8⟩
    refine ⟨by rw [e7, st_cell _ _ _ _ (by decide), e5, st_cell _ _ _ _ (by decide)]; exact g1, by rw [e7, st_cell _ _ _ _ (by decide), e5, st_cell _ _ _ _ (by decide)]; exact g2, fun _ => ⟨?_, fun j j0 j1 => ?_, fun j j0 j1 => ?_⟩, by rw [e7, e5]; exact fR_66 (fR_68 fo) (by omega)⟩
    · rw [e7]; exact st66_M (isTM_f M3 (fun i _ _ => by rw [e5, st_cell _ _ _ _ (by decide)]))
    · show h7 66 (101 + j) = addK S a b c j
      by_cases y : j = 96
      · rw [y, addK_n, e7, show (101 : Int) + 96 = 197 from rfl, st_same]
      · rw [e7, st_slot _ _ _ _ (by omega), t5]
        by_cases y1 : j = S 96
        · rw [y1, ad.1]; exact r1
        · by_cases y2 : j = 8 + S 96
          · rw [y2, ad.2.1, show 101 + (8 + S 96) = 109 + S 96 by omega]; exact r2
          · by_cases y3 : j = 16 + S 96
            · rw [y3, ad.2.2, show 101 + (16 + S 96) = 117 + S 96 by omega]; exact r3
            · rw [addK_o y y1 y2 y3]; exact r0 j j0 j1 y1 y2 y3
    · have j2 : j < addK S a b c 96 := j1
      rw [addK_n] at j2
      show h7 68 (8 + j) = c27 6 (up N (S 96) u j)
      rw [e7, st_cell _ _ _ _ (by decide), e5]
      by_cases y : j = S 96
      · rw [y, st_same, up_s]
      · rw [st_slot _ _ _ _ (by omega), up_o _ _ y, e68]; exact rn j j0 (by omega)
  have at122 : ∀ (q u a b : Int) (h3 : AH), h3 65 4 = 0 → h3 65 5 = -1 → isTM h3 n B q → (0 ≤ q ∧ q ≤ n) → fR h h3 → h3 68 = h 68 → S 96 < 8 → (∀ j, 0 ≤ j → j < 101 → j ≠ S 96 → j ≠ 8 + S 96 → h3 66 (101 + j) = S j) → h3 66 (101 + S 96) = a → h3 66 (109 + S 96) = b → pCls n B S N p = pCls3 n B S N u a b q → XV mX9_readsClass 122 [some (vR 65), none, some (vI (S 96)), none, some (vL (c27 6 u)), none] [] w h3 (fun h' => rlR h h' n B (pCls n B S N p)) := by
    intro q u a b h3 g1 g2 M3 q0 fo e68 h8 r0 r1 r2 er
    have y1 := tkQ_r (B := B) q0
    have y2 := tkE_r (B := B) q0
    have store : ∀ (c q' : Int) (h5 h6 : AH), h5 65 4 = 0 → h5 65 5 = -1 → isTM h5 n B q' → fP h3 h5 → h6 = st h5 66 (117 + S 96) c → pCls n B S N p = (0, -1, q', addK S a b c, up N (S 96) u) → XV mX9_readsClass 152 [some (vR 65), none, some (vI (S 96)), none, some (vL (c27 6 u)), none] [] w h6 (fun h' => rlR h h' n B (pCls n B S N p)) := by
      intro c q' h5 h6 s1 s2 s3 s4 s5 s6
      refine at152 q' u a b c h6 (by rw [s5, st_cell _ _ _ _ (by decide)]; exact s1) (by rw [s5, st_cell _ _ _ _ (by decide)]; exact s2) (by rw [s5]; exact st66_M s3) (by rw [s5]; exact fR_66 (fR_tr fo (fP_R s4)) (by omega)) (by rw [s5, st_row _ _ _ (by decide), s4.1 68 (by decide)]; exact e68) h8 (fun j j0 j1 z1 z2 z3 => ?_) ?_ ?_ (by rw [s5, st_same]) s6
      · rw [s5, st_slot _ _ _ _ (by omega), s4.1 66 (by decide)]; exact r0 j j0 j1 z1 z2
      · rw [s5, st_slot _ _ _ _ (by omega), s4.1 66 (by decide)]; exact r1
      · rw [s5, st_slot _ _ _ _ (by omega), s4.1 66 (by decide)]; exact r2
    refine r_X9_readsClass_122 sA ((c_X9_hasWord (v := 777297172) sA (fR_T fo T) M3 q0 g1 (by decide) c27Q.2.2.2.2.2.2.2.2).mono ?_)
    intro x h4 z
    rcases z with ⟨z1, z2, z3, z4⟩ | ⟨z1, z2, rfl⟩
    · have eo : pOpt n B 777297172 9 q = pNum n B 0 9 (tkE n B q) := by rw [pOpt, if_pos z1]
      refine ⟨by omega, fun y => absurd y (by omega), fun _ => ?_⟩
      refine (c_X9_numeral sA (fR_T (fR_tr fo (fP_R (fT_P z4))) T) z3 (by omega) (by rw [z4.2 4 (by decide)]; exact g1) (by rw [z4.2 5 (by decide)]; exact g2) (by decide) (by decide)).mono ?_
      rintro x5 h5 ⟨f5, u1, u2, u3⟩
      obtain ⟨g3, g4⟩ := pNum_g (B := B) (p := tkE n B q) (n := n) 0 9 (by omega)
      refine ⟨by omega, by omega, fun h6 e6 => ?_⟩
      by_cases zz : (pNum n B 0 9 (tkE n B q)).1 = 0
      · have y := g4 zz
        obtain ⟨t1, t2⟩ := u3 zz
        exact store x5 _ h5 h6 (by omega) (by omega) t2 (fP_tr (fT_P z4) f5) e6 (by rw [er, pCls3, eo, t1, zz, y.2.2])
      · refine at152F _ (pNum n B 0 9 (tkE n B q)).2.1 _ h6 zz (by rw [e6, st_cell _ _ _ _ (by decide)]; exact u1) (by rw [e6, st_cell _ _ _ _ (by decide)]; exact u2) (by rw [e6]; exact fR_66 (fR_tr fo (fR_tr (fP_R (fT_P z4)) (fP_R f5))) (by omega)) h8 (by rw [er, pCls3, eo]) (by rw [er, pCls3, eo])
    · have eo : pOpt n B 777297172 9 q = (0, -1, q, -1) := by rw [pOpt, if_neg z1]
      refine ⟨by omega, fun _ => ⟨by omega, by omega, fun h6 e6 => ?_⟩, fun y => absurd z2 y⟩
      exact store (-1) q h4 h6 g1 g2 M3 (fP_rfl h4) e6 (by rw [er, pCls3, eo])
  have at92 : ∀ (q u a : Int) (h3 : AH), h3 65 4 = 0 → h3 65 5 = -1 → isTM h3 n B q → (0 ≤ q ∧ q ≤ n) → fR h h3 → h3 68 = h 68 → S 96 < 8 → (∀ j, 0 ≤ j → j < 101 → j ≠ S 96 → h3 66 (101 + j) = S j) → h3 66 (101 + S 96) = a → pCls n B S N p = pCls2 n B S N u a q → XV mX9_readsClass 92 [some (vR 65), none, some (vI (S 96)), none, some (vL (c27 6 u)), none] [] w h3 (fun h' => rlR h h' n B (pCls n B S N p)) := by
    intro q u a h3 g1 g2 M3 q0 fo e68 h8 r0 r1 er
    have y1 := tkQ_r (B := B) q0
    have y2 := tkE_r (B := B) q0
    have store : ∀ (b q' : Int) (h5 h6 : AH), h5 65 4 = 0 → h5 65 5 = -1 → isTM h5 n B q' → (0 ≤ q' ∧ q' ≤ n) → fP h3 h5 → h6 = st h5 66 (109 + S 96) b → pCls n B S N p = pCls3 n B S N u a b q' → XV mX9_readsClass 122 [some (vR 65), none, some (vI (S 96)), none, some (vL (c27 6 u)), none] [] w h6 (fun h' => rlR h h' n B (pCls n B S N p)) := by
      intro b q' h5 h6 s1 s2 s3 s0 s4 s5 s6
      refine at122 q' u a b h6 (by rw [s5, st_cell _ _ _ _ (by decide)]; exact s1) (by rw [s5, st_cell _ _ _ _ (by decide)]; exact s2) (by rw [s5]; exact st66_M s3) s0 (by rw [s5]; exact fR_66 (fR_tr fo (fP_R s4)) (by omega)) (by rw [s5, st_row _ _ _ (by decide), s4.1 68 (by decide)]; exact e68) h8 (fun j j0 j1 z1 z2 => ?_) ?_ (by rw [s5, st_same]) s6
      · rw [s5, st_slot _ _ _ _ (by omega), s4.1 66 (by decide)]; exact r0 j j0 j1 z1
      · rw [s5, st_slot _ _ _ _ (by omega), s4.1 66 (by decide)]; exact r1
    refine r_X9_readsClass_92 sA ((c_X9_hasWord (v := 20317291) sA (fR_T fo T) M3 q0 g1 (by decide) c27Q.2.2.2.2.2.2.1).mono ?_)
    intro x h4 z
    rcases z with ⟨z1, z2, z3, z4⟩ | ⟨z1, z2, rfl⟩
    · have eo : pOpt n B 20317291 99 q = pNum n B 0 99 (tkE n B q) := by rw [pOpt, if_pos z1]
      refine ⟨by omega, fun y => absurd y (by omega), fun _ => ?_⟩
      refine (c_X9_numeral sA (fR_T (fR_tr fo (fP_R (fT_P z4))) T) z3 (by omega) (by rw [z4.2 4 (by decide)]; exact g1) (by rw [z4.2 5 (by decide)]; exact g2) (by decide) (by decide)).mono ?_
      rintro x5 h5 ⟨f5, u1, u2, u3⟩
      obtain ⟨g3, g4⟩ := pNum_g (B := B) (p := tkE n B q) (n := n) 0 99 (by omega)
      refine ⟨by omega, by omega, fun h6 e6 => ?_⟩
      by_cases zz : (pNum n B 0 99 (tkE n B q)).1 = 0
      · have y := g4 zz
        obtain ⟨t1, t2⟩ := u3 zz
        exact store x5 _ h5 h6 (by omega) (by omega) t2 (by omega) (fP_tr (fT_P z4) f5) e6 (by rw [er, pCls2, eo, if_neg (fun k => k zz), t1])
      · refine at122F _ (pNum n B 0 99 (tkE n B q)).2.1 _ h6 zz (by omega) (by rw [e6, st_cell _ _ _ _ (by decide)]; exact u1) (by rw [e6, st_cell _ _ _ _ (by decide)]; exact u2) (by rw [e6]; exact fR_66 (fR_tr fo (fR_tr (fP_R (fT_P z4)) (fP_R f5))) (by omega)) h8 (by rw [er, pCls2, eo, if_pos zz]) (by rw [er, pCls2, eo, if_pos zz])
    · have eo : pOpt n B 20317291 99 q = (0, -1, q, -1) := by rw [pOpt, if_neg z1]
      refine ⟨by omega, fun _ => ⟨by omega, by omega, fun h6 e6 => ?_⟩, fun y => absurd z2 y⟩
      exact store (-1) q h4 h6 g1 g2 M3 q0 (fP_rfl h4) e6 (by rw [er, pCls2, eo, if_neg (fun k => k rfl)])
  have at47F : ∀ (f pl : Int) (h3 : AH), f ≠ 0 → inR f → h3 65 4 = f → h3 65 5 = pl → fR h h3 → (pCls n B S N p).1 = f → (pCls n B S N p).2.1 = pl → XV mX9_readsClass 47 [some (vR 65), none, some (vI (S 96)), none, none, none] [] w h3 (fun h' => rlR h h' n B (pCls n B S N p)) := by
    intro f pl h3 f0 fr g1 g2 fo e1 e2
    exact r_X9_readsClass_47 sA ⟨by omega, fun c => absurd c (by omega), fun _ => rlR_f f0 e1 e2 g1 g2 fo⟩
  refine e_X9_readsClass (r_X9_readsClass_0 sA ?_)
  rw [e197]
  refine ⟨by omega, fun c => r_X9_readsClass_21 sA ((c_X9_named (N := N) sA Qh M hg e197 k96 (kn h (fP_rfl h)).2).mono ?_), fun c => (c_X9_failsG sA hg).mono fun h2 e2 => ?_⟩
  · intro x h1 z
    rcases z with ⟨z1, z2, rfl⟩ | ⟨z1, z2, z3⟩
    · have fr := fnd_r (nm := N) (v := tkV n B (tkE n B p)) (S 96).toNat 0
      refine ⟨by omega, fun y => absurd hg y, fun _ => ⟨by omega, fun y => ?_, fun y => (c_X9_failsG sA hg).mono fun h5 e5 => ?_⟩⟩
      · have er : pCls n B S N p = pCls1 n B S N (tkV n B (tkE n B p)) (tkE n B (tkE n B p)) := by rw [pCls, if_neg (by omega), if_neg (fun k => k z1), if_neg (by omega)]
        have ev := M.2.2.2.2.2.2.2.2.2.1 z1.1
        have y1 := tkQ_r (B := B) p0
        have y2 := tkE_r (B := B) p0
        refine r_X9_readsClass_47 sA ⟨by omega, fun _ => (c_X9_takesT sA T M p0).mono ?_, fun k => absurd hg k⟩
        rintro h2 ⟨M2, f2⟩
        have fo2 := fP_R (fT_P f2)
        rw [ev]
        refine (c_X9_hasWord (v := 486) sA (fR_T fo2 T) M2 (by omega) (by rw [f2.2 4 (by decide)]; exact hg) (by decide) c27Q.1).mono ?_
        intro x4 h3 q
        rcases q with ⟨q1, q2, q3, q4⟩ | ⟨q1, q2, rfl⟩
        · have eo : pOf n B N (S 96) (tkE n B (tkE n B p)) = pKnd n B N (S 96) (tkE n B (tkE n B (tkE n B p))) := by rw [pOf, if_pos q1]
          have f3 : fP h1 h3 := fP_tr (fT_P f2) (fT_P q4)
          have y3 := tkQ_r (B := B) (p := tkE n B (tkE n B p)) (n := n) (by omega)
          have y4 := tkE_r (B := B) (p := tkE n B (tkE n B p)) (n := n) (by omega)
          refine ⟨by omega, fun k => absurd k (by omega), fun _ => ?_⟩
          refine (c_X9_known (N := N) sA (fR_Q (fP_R f3) Qh) (tpR_P T f3) q3 (by omega) (by rw [q4.2 4 (by decide), f2.2 4 (by decide)]; exact hg) (by rw [q4.2 5 (by decide), f2.2 5 (by decide)]; exact hp) (kn h3 f3).1 k96 (kn h3 f3).2).mono ?_
          rintro x11 h10 ⟨f10, u1, u2, u3⟩
          obtain ⟨g3, g4⟩ := pKnd_g (B := B) (N := N) (p := tkE n B (tkE n B (tkE n B p))) (n := n) (c := S 96) k96.1 (by omega)
          have f13 := fP_tr f3 f10
          refine ⟨by omega, by omega, fun h14 e14 => ?_⟩
          by_cases zz : (pKnd n B N (S 96) (tkE n B (tkE n B (tkE n B p)))).1 = 0
          · have yy := g4 zz
            obtain ⟨t1, t2⟩ := u3 zz
            refine at92 _ _ x11 h14 (by rw [e14, st_cell _ _ _ _ (by decide)]; omega) (by rw [e14, st_cell _ _ _ _ (by decide)]; omega) (by rw [e14]; exact st66_M t2) (by omega) (by rw [e14]; exact fR_66 (fP_R f13) (by omega)) (by rw [e14, st_row _ _ _ (by decide), f13.1 68 (by decide)]) (by omega) (fun j j0 j1 w1 => ?_) (by rw [e14, st_same]) (by rw [er, pCls1, eo, if_neg (fun k => k zz), t1])
            rw [e14, st_slot _ _ _ _ (by omega), f13.1 66 (by decide)]; exact ra j j0 j1
          · exact at92F _ (pKnd n B N (S 96) (tkE n B (tkE n B (tkE n B p)))).2.1 _ h14 zz (by omega) (by rw [e14, st_cell _ _ _ _ (by decide)]; exact u1) (by rw [e14, st_cell _ _ _ _ (by decide)]; exact u2) (by rw [e14]; exact fR_66 (fP_R f13) (by omega)) (by omega) (by rw [er, pCls1, eo, if_pos zz]) (by rw [er, pCls1, eo, if_pos zz])
        · have eo : pOf n B N (S 96) (tkE n B (tkE n B p)) = (0, -1, tkE n B (tkE n B p), -1) := by rw [pOf, if_neg q1]
          refine ⟨by omega, fun _ => ⟨by omega, by omega, fun h8 e8 => ?_⟩, fun k => absurd q2 k⟩
          refine at92 _ _ (-1) h8 (by rw [e8, st_cell _ _ _ _ (by decide), f2.2 4 (by decide)]; exact hg) (by rw [e8, st_cell _ _ _ _ (by decide), f2.2 5 (by decide)]; exact hp) (by rw [e8]; exact st66_M M2) (by omega) (by rw [e8]; exact fR_66 fo2 (by omega)) (by rw [e8, st_row _ _ _ (by decide), f2.1 68 (by decide)]) (by omega) (fun j j0 j1 w1 => ?_) (by rw [e8, st_same]) (by rw [er, pCls1, eo, if_neg (fun k => k rfl)])
          rw [e8, st_slot _ _ _ _ (by omega), f2.1 66 (by decide)]; exact ra j j0 j1
      · obtain ⟨a1, a2, a3, a4⟩ := fP_fail e5
        have er : pCls n B S N p = (2, tkQ n B (tkE n B p), p, S, N) := by rw [pCls, if_neg (by omega), if_neg (fun k => k z1), if_pos (by omega)]
        exact at47F 2 (tkQ n B (tkE n B p)) h5 (by decide) (by decide) a2 (by rw [a3]; exact M.2.1) (fP_R a1) (by rw [er]) (by rw [er])
    · obtain ⟨a1, a2, a3, a4⟩ := fP_fail z3
      have er : pCls n B S N p = (1, tkQ n B (tkE n B p), p, S, N) := by rw [pCls, if_neg (by omega), if_pos z1]
      exact ⟨by omega, fun _ => at47F 1 _ h1 (by decide) (by decide) a2 a3 (fP_R a1) (by rw [er]) (by rw [er]), fun y => absurd y (by omega)⟩
  · obtain ⟨a1, a2, a3, a4⟩ := fP_fail e2
    have er : pCls n B S N p = (4, tkQ n B p, p, S, N) := by rw [pCls, if_pos (by omega)]
    refine r_X9_readsClass_21 sA ((c_X9_namedB sA (by omega) (by omega)).eq ⟨by omega, fun _ => ?_, fun y => absurd y (by omega)⟩)
    exact at47F 4 _ h2 (by decide) (by decide) a2 a3 (fP_R a1) (by rw [er]) (by rw [er])
theorem c_X9_readsLine (sA : shA w) (P : rpI h n B S N p) : CV mX9_readsLine [vR 65] w h (fun h' => rlR h h' n B (pLine n B S N p)) := by
  obtain ⟨T, M, p0, ⟨hg, hp⟩, ra, rn, ⟨ok, oN⟩, Qh⟩ := id P
  have gb := pBody_g (B := B) ok oN p0
  have yQ := tkQ_r (B := B) p0
  have yE := tkE_r (B := B) p0
  obtain ⟨a1, a2, a3, a4, a5, a6, a7, a8, a9⟩ := c27Q
  have at155 : ∀ h2 : AH, rlR h h2 n B (pBody n B S N p) → XV mX9_readsLine 155 [some (vR 65), none] [] w h2 (fun h' => rlR h h' n B (pLine n B S N p)) := by
    rintro h2 ⟨l1, l2, l3, l4⟩
    refine r_X9_readsLine_155 sA ⟨by have := gb.1; omega, fun c => ?_, fun c => ?_⟩
    · have z : (pBody n B S N p).1 = 0 := by omega
      obtain ⟨m1, m2, m3⟩ := l3 z
      obtain ⟨s1, s2, s3, s4, s5⟩ := gb.2 z
      refine ⟨by have := m1.2.2.2.1; omega, fun d => (c_X9_failsG sA c).mono fun h3 e3 => ?_, fun d => (c_X9_takesT sA (fR_T l4 T) m1 (by omega)).mono ?_⟩
      · obtain ⟨b1, b2, b3, b4⟩ := fP_fail e3
        have er : pLine n B S N p = (1, tkQ n B (pBody n B S N p).2.2.1, p, S, N) := by rw [pLine, if_neg (fun k => k z), if_neg (fun k => d (m1.2.2.2.2.2.1.mpr k))]
        exact rlR_f (f := 1) (by decide) (by rw [er]) (by rw [er]) b2 (by rw [b3]; exact m1.2.1) (fR_tr l4 (fP_R b1))
      · rintro h4 ⟨q1, q2⟩
        have er : pLine n B S N p = (0, -1, tkE n B (pBody n B S N p).2.2.1, (pBody n B S N p).2.2.2) := by rw [pLine, if_neg (fun k => k z), if_pos (m1.2.2.2.2.2.1.mp d)]
        rw [er]
        refine ⟨by rw [q2.2 4 (by decide)]; exact c, by rw [q2.2 5 (by decide), l2, s5], fun _ => ⟨q1, fun j j0 j1 => by rw [q2.1 66 (by decide)]; exact m2 j j0 j1, fun k k0 k1 => by rw [q2.1 68 (by decide)]; exact m3 k k0 k1⟩, fR_tr l4 (fP_R (fT_P q2))⟩
    · have z : (pBody n B S N p).1 ≠ 0 := by omega
      have er : pLine n B S N p = pBody n B S N p := by rw [pLine, if_pos z]
      rw [er]
      exact ⟨l1, l2, l3, l4⟩
  -- behind a word
  have beh : ∀ h1 : AH, isTM h1 n B (tkE n B p) → fT h h1 → rpI h1 n B S N (tkE n B p) := fun h1 M1 f1 => ⟨tpR_f T f1, M1, by omega, ⟨by rw [f1.2 4 (by decide)]; exact hg, by rw [f1.2 5 (by decide)]; exact hp⟩, fun j j0 j1 => by rw [f1.1 66 (by decide)]; exact ra j j0 j1, fun k k0 k1 => by rw [f1.1 68 (by decide)]; exact rn k k0 k1, ⟨ok, oN⟩, fR_Q (fP_R (fT_P f1)) Qh⟩
  have up1 : ∀ {h1 h2 : AH} {r : R5}, fT h h1 → rlR h1 h2 n B r → rlR h h2 n B r := fun f1 R => ⟨R.1, R.2.1, R.2.2.1, fR_tr (fP_R (fT_P f1)) R.2.2.2⟩
  have e36 : h 65 36 = tkQ n B p := M.2.1
  -- a number is set
  have sett : ∀ (i lo hi : Int) (h1 : AH), (98 ≤ i ∧ i ≤ 100) → inR lo → inR hi → isTM h1 n B (tkE n B p) → fT h h1 → pBody n B S N p = pSet n B S N i lo hi (tkE n B p) → CI mX9_numeral [vR 65, vI lo, vI hi] w h1 (fun x h20 => ∀ h22, h22 = st h20 66 (101 + i) x → XV mX9_readsLine 155 [some (vR 65), none] [] w h22 (fun h' => rlR h h' n B (pLine n B S N p))) := by
    intro i lo hi h1 hi' hlo hhi M1 f1 er
    refine (c_X9_numeral sA (tpR_f T f1) M1 (by omega) (by rw [f1.2 4 (by decide)]; exact hg) (by rw [f1.2 5 (by decide)]; exact hp) hlo hhi).mono ?_
    rintro x h20 ⟨f20, u1, u2, u3⟩ h22 e22
    refine at155 h22 ?_
    rw [er]
    have fo := fP_tr (fT_P f1) f20
    refine ⟨by rw [e22, st_cell _ _ _ _ (by decide)]; exact u1, by rw [e22, st_cell _ _ _ _ (by decide)]; exact u2, fun z => ?_, by rw [e22]; exact fR_66 (fP_R fo) (by omega)⟩
    obtain ⟨t1, t2⟩ := u3 z
    refine ⟨by rw [e22]; exact st66_M t2, fun j j0 j1 => ?_, fun k k0 k1 => ?_⟩
    · show h22 66 (101 + j) = up S i (pNum n B lo hi (tkE n B p)).2.2.2 j
      rw [← t1, e22]
      by_cases y : j = i
      · rw [y, st_same, up_s]
      · rw [st_slot _ _ _ _ (by omega), up_o _ _ y, fo.1 66 (by decide)]; exact ra j j0 j1
    · have k2 : k < up S i (pNum n B lo hi (tkE n B p)).2.2.2 96 := k1
      rw [up_o _ _ (by omega)] at k2
      rw [e22, st_cell _ _ _ _ (by decide), fo.1 68 (by decide)]
      exact rn k k0 k2
  refine e_X9_readsLine (r_X9_readsLine_0 sA ?_)
  rw [e36]
  refine (c_X9_hasWord (v := 3540595) sA T M p0 hg (by decide) a4).mono ?_
  intro x1 h1 z
  rcases z with ⟨z1, z2, z3, z4⟩ | ⟨z1, z2, z3⟩
  · refine ⟨by omega, fun y => absurd y (by omega), fun _ => (c_X9_readsClass sA (beh h1 z3 z4)).mono fun h44 R => at155 h44 ?_⟩
    rw [pBody, if_pos z1]; exact up1 z4 R
  · subst z3
    refine ⟨by omega, fun _ => (c_X9_hasWord (v := 505957) sA T M p0 hg (by decide) a2).mono ?_, fun y => absurd z2 y⟩
    intro x2 h4 y
    rcases y with ⟨y1, y2, y3, y4⟩ | ⟨y1, y2, y3⟩
    · refine ⟨by omega, fun y => absurd y (by omega), fun _ => (c_X9_readsTimer sA (beh h4 y3 y4) (Or.inl rfl)).mono fun h41 R => at155 h41 ?_⟩
      rw [pBody, if_neg z1, if_pos y1]; exact up1 y4 R
    · subst y3
      refine ⟨by omega, fun _ => (c_X9_hasWord (v := 5969497) sA T M p0 hg (by decide) a5).mono ?_, fun y => absurd y2 y⟩
      intro x3 h7 u
      rcases u with ⟨u1, u2, u3, u4⟩ | ⟨u1, u2, u3⟩
      · refine ⟨by omega, fun y => absurd y (by omega), fun _ => (c_X9_readsTimer sA (beh h7 u3 u4) (Or.inr rfl)).mono fun h38 R => at155 h38 ?_⟩
        rw [pBody, if_neg z1, if_neg y1, if_pos u1]; exact up1 u4 R
      · subst u3
        refine ⟨by omega, fun _ => (c_X9_hasWord (v := 408362632) sA T M p0 hg (by decide) a8).mono ?_, fun y => absurd u2 y⟩
        intro x4 h10 v
        rcases v with ⟨v1, v2, v3, v4⟩ | ⟨v1, v2, v3⟩
        · refine ⟨by omega, fun y => absurd y (by omega), fun _ => sett 98 1 300 h10 (by decide) (by decide) (by decide) v3 v4 ?_⟩
          rw [pBody, if_neg z1, if_neg y1, if_neg u1, if_pos v1]
        · subst v3
          refine ⟨by omega, fun _ => (c_X9_hasWord (v := 17376357) sA T M p0 hg (by decide) a6).mono ?_, fun y => absurd v2 y⟩
          intro x5 h13 s
          rcases s with ⟨s1, s2, s3, s4⟩ | ⟨s1, s2, s3⟩
          · refine ⟨by omega, fun y => absurd y (by omega), fun _ => sett 99 1 99 h13 (by decide) (by decide) (by decide) s3 s4 ?_⟩
            rw [pBody, if_neg z1, if_neg y1, if_neg u1, if_neg v1, if_pos s1]
          · subst s3
            refine ⟨by omega, fun _ => (c_X9_hasWord (v := 643129) sA T M p0 hg (by decide) a3).mono ?_, fun y => absurd s2 y⟩
            intro x6 h16 t
            rcases t with ⟨t1, t2, t3, t4⟩ | ⟨t1, t2, t3⟩
            · refine ⟨by omega, fun y => absurd y (by omega), fun _ => sett 100 0 20 h16 (by decide) (by decide) (by decide) t3 t4 ?_⟩
              rw [pBody, if_neg z1, if_neg y1, if_neg u1, if_neg v1, if_neg s1, if_pos t1]
            · subst t3
              refine ⟨by omega, fun _ => (c_X9_failsG sA hg).mono fun h19 e19 => at155 h19 ?_, fun y => absurd t2 y⟩
              obtain ⟨b1, b2, b3, b4⟩ := fP_fail e19
              have er : pBody n B S N p = (1, tkQ n B p, p, S, N) := by rw [pBody, if_neg z1, if_neg y1, if_neg u1, if_neg v1, if_neg s1, if_neg t1]
              exact rlR_f (f := 1) (by decide) (by rw [er]) (by rw [er]) b2 (by rw [b3]; exact M.2.1) (fP_R b1)
end
