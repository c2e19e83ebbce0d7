/-! LIVE -/
abbrev opn (n : Int) (F : Int → Int) (last u k : Int) : Prop := (0 ≤ k ∧ k < n) ∧ last < F k ∧ F k ≤ u
def osum (F W : Int → Int) (last u : Int) : Nat → Int
  | 0 => 0
  | i + 1 => osum F W last u i + (if last < F i ∧ F i ≤ u then W i * (u + 1 - F i) else 0)
def wantU (n : Int) (F L W : Int → Int) (r p last u : Int) : Prop := (∃ k, opn n F last u k) ∧ (r = 0 ∨ (∃ k, opn n F last u k ∧ L k = u) ∨ (r = 2 ∧ p < osum F W last u n.toNat))
def liveP (n : Int) (F L W : Int → Int) (r p len m : Int) (t : Int → Int) : Prop := ∀ i, 0 ≤ i → i < m → (pv t i < t i ∧ t i ≤ len ∧ wantU n F L W r p (pv t i) (t i)) ∧ ∀ u, pv t i < u → u < t i → ¬ wantU n F L W r p (pv t i) u
def liveS (n : Int) (F L W : Int → Int) (r p len m : Int) (t : Int → Int) : Prop := 0 ≤ m ∧ liveP n F L W r p len m t ∧ ∀ u, pv t m < u → u ≤ len → ¬ wantU n F L W r p (pv t m) u
theorem wantU_L {n : Int} {F L W : Int → Int} {r p last k : Int} (h0 : 0 ≤ k) (h1 : k < n) (hF : last < F k) (hL : F k ≤ L k) : wantU n F L W r p last (L k) := ⟨⟨k, ⟨h0, h1⟩, hF, hL⟩, Or.inr (Or.inl ⟨k, ⟨⟨h0, h1⟩, hF, hL⟩, rfl⟩)⟩
theorem liveS_okW {n : Int} {F L W : Int → Int} {r p len m : Int} {t : Int → Int} (hl : len ≤ 300) (hs : liveS n F L W r p len m t) : okW m t := okW_pv hs.1 (fun i i0 i1 => by have := (hs.2.1 i i0 i1).1; omega)
theorem liveS_kept {n : Int} {F L W : Int → Int} {r p len m : Int} {t : Int → Int} (ok : okC n F L W) (hL : ∀ k, 0 ≤ k → k < n → L k ≤ len) (hs : liveS n F L W r p len m t) : kept n F L m t := by
  refine kept_pv hs.1 (fun k a b => (ok.2.1 k a b).1.1) (fun i i0 i1 k k0 k1 hk => ?_) (fun k k0 k1 => ?_)
  · have b := (ok.2.1 k k0 k1).1
    by_cases c : t i ≤ L k
    · exact c
    · exact absurd (wantU_L k0 k1 hk b.2.1) ((hs.2.1 i i0 i1).2 (L k) (by omega) (by omega))
  · have b := (ok.2.1 k k0 k1).1
    by_cases c : F k ≤ pv t m
    · exact c
    · exact absurd (wantU_L k0 k1 (by omega) b.2.1) (hs.2.2 (L k) (by omega) (hL k k0 k1))
theorem liveS_one {n : Int} {F L W : Int → Int} {r p len m m' : Int} {t t' : Int → Int} (a : liveS n F L W r p len m t) (b : liveS n F L W r p len m' t') : m = m' ∧ ∀ i, 0 ≤ i → i < m → t i = t' i := by
  have key : ∀ (d : Nat), (d : Int) ≤ m → (d : Int) ≤ m' → ∀ i : Int, 0 ≤ i → i < d → t i = t' i := by
    intro d
    induction d with
    | zero => intro _ _ i h1 h2; omega
    | succ d ih =>
      intro h1 h2 i i0 i1
      have pre := ih (by omega) (by omega)
      by_cases e : i < d
      · exact pre i i0 e
      · have ei : i = (d : Int) := by omega
        rw [ei]
        have x := a.2.1 (d : Int) (by omega) (by omega)
        have y := b.2.1 (d : Int) (by omega) (by omega)
        rw [← pv_congr pre] at y
        rcases Int.lt_trichotomy (t (d : Int)) (t' (d : Int)) with q | q | q
        · exact absurd x.1.2.2 (y.2 _ x.1.1 q)
        · exact q
        · exact absurd y.1.2.2 (x.2 _ y.1.1 q)
  have stop : ∀ {m m' : Int} {t t' : Int → Int}, liveS n F L W r p len m t → liveS n F L W r p len m' t' → (∀ i : Int, 0 ≤ i → i < m → t i = t' i) → ¬ m < m' := by
    intro m m' t t' a b he hlt
    have y := (b.2.1 m a.1 hlt).1
    rw [← pv_congr he] at y
    exact a.2.2 _ y.1 y.2.1 y.2.2
  rcases Int.lt_trichotomy m m' with q | q | q
  · exact absurd q (stop a b (fun i i0 i1 => key m.toNat (by have := a.1; omega) (by have := a.1; omega) i i0 (by omega)))
  · exact ⟨q, fun i i0 i1 => key m.toNat (by have := a.1; omega) (by have := a.1; omega) i i0 (by omega)⟩
  · exact absurd q (stop b a (fun i i0 i1 => (key m'.toNat (by have := b.1; omega) (by have := b.1; omega) i i0 (by omega)).symm))
theorem wsum_app (F W : Int → Int) (u : Int) : ∀ (m : Nat) (i : Int), wsum F W u (m + 1) i = wsum F W u m i + W (i + m) * (u - F (i + m)) := by
  intro m
  induction m with
  | zero => intro i; simp [wsum]
  | succ m ih =>
    intro i
    rw [wsum, ih (i + 1), wsum, show i + 1 + (m : Int) = i + ((m + 1 : Nat) : Int) by omega]
    omega
theorem osum_eq {F W : Int → Int} {last u : Int} {a b : Nat} (hab : a ≤ b) (h1 : ∀ k : Nat, k < a → F k ≤ last) (h2 : ∀ k : Nat, a ≤ k → k < b → last < F k ∧ F k ≤ u) : ∀ (d : Nat), (∀ k : Nat, b ≤ k → k < b + d → u < F k) → osum F W last u (b + d) = wsum F W (u + 1) (b - a) a := by
  have s1 : ∀ i : Nat, i ≤ a → osum F W last u i = 0 := by
    intro i
    induction i with
    | zero => intro _; rfl
    | succ i ih => intro hi; rw [osum, ih (by omega), if_neg (by have := h1 i (by omega); omega)]; rfl
  have s2 : ∀ j : Nat, a + j ≤ b → osum F W last u (a + j) = wsum F W (u + 1) j a := by
    intro j
    induction j with
    | zero => intro _; rw [Nat.add_zero, s1 a (Nat.le_refl _)]; rfl
    | succ j ih =>
      intro hj
      rw [show a + (j + 1) = a + j + 1 by omega, osum, ih (by omega), if_pos (h2 (a + j) (by omega) (by omega)), wsum_app, show ((a + j : Nat) : Int) = (a : Int) + (j : Int) by omega]
  intro d
  induction d with
  | zero =>
    intro _
    have := s2 (b - a) (by omega)
    rw [show a + (b - a) = b by omega] at this
    exact this
  | succ d ih =>
    intro h3
    rw [show b + (d + 1) = b + d + 1 by omega, osum, ih (fun k a b => h3 k a (by omega)), if_neg (by have := h3 (b + d) (by omega) (by omega); omega)]
    omega
section
variable {w : WS} {h : AH} {v c o pl n : Int} {F L W S : Int → Int}
theorem want_iff {r p last u a b : Int} (ok : okC n F L W) (hl : -1 ≤ last) (ha : 0 ≤ a) (hab : a ≤ b) (hb : b ≤ n) (h1 : ∀ k, 0 ≤ k → k < a → F k ≤ last) (h2 : ∀ k, a ≤ k → k < b → last < F k ∧ F k ≤ u) (h3 : ∀ k, b ≤ k → k < n → u < F k) (hno : ∀ x, last < x → x < u → ¬ wantU n F L W r p last x) : wantS F L W r u p a b ↔ wantU n F L W r p last u := by
  have eo : osum F W last u n.toNat = wsum F W (u + 1) (b - a).toNat a := by
    have := osum_eq (F := F) (W := W) (last := last) (u := u) (a := a.toNat) (b := b.toNat) (by omega) (fun k hk => h1 k (by omega) (by omega)) (fun k q1 q2 => h2 k (by omega) (by omega)) (n.toNat - b.toNat) (fun k q1 q2 => h3 k (by omega) (by omega))
    rw [show b.toNat + (n.toNat - b.toNat) = n.toNat by omega, show b.toNat - a.toNat = (b - a).toNat by omega, show ((a.toNat : Nat) : Int) = a by omega] at this
    exact this
  have op : ∀ k, opn n F last u k ↔ (a ≤ k ∧ k < b) := by
    intro k
    constructor
    · rintro ⟨⟨k0, k1⟩, k2, k3⟩
      constructor
      · by_cases c : a ≤ k
        · exact c
        · have := h1 k k0 (by omega); omega
      · by_cases c : k < b
        · exact c
        · have := h3 k (by omega) k1; omega
    · rintro ⟨k0, k1⟩
      exact ⟨⟨by omega, by omega⟩, h2 k k0 k1⟩
  have ge : ∀ k, a ≤ k → k < b → u ≤ L k := by
    intro k k0 k1
    have q := h2 k k0 k1
    have bb := (ok.2.1 k (by omega) (by omega)).1
    by_cases c : u ≤ L k
    · exact c
    · exact absurd (wantU_L (by omega) (by omega) q.1 bb.2.1) (hno (L k) (by omega) (by omega))
  constructor
  · rintro ⟨q, z⟩
    refine ⟨⟨a, (op a).mpr ⟨by omega, q⟩⟩, ?_⟩
    rcases z with z | z | z
    · exact Or.inl z
    · rcases z with ⟨e, -⟩ | ⟨⟨k, k1, k2⟩, -⟩
      · have := h2 a (by omega) q; omega
      · exact Or.inr (Or.inl ⟨k, (op k).mpr k1, k2⟩)
    · exact Or.inr (Or.inr ⟨z.1, by rw [eo]; exact z.2⟩)
  · rintro ⟨⟨k, hk⟩, z⟩
    have q := (op k).mp hk
    refine ⟨by omega, ?_⟩
    rcases z with z | ⟨j, z1, z2⟩ | z
    · exact Or.inl z
    · exact Or.inr (Or.inl (Or.inr ⟨⟨j, (op j).mp z1, z2⟩, fun i hi => ge i hi.1 hi.2⟩))
    · exact Or.inr (Or.inr ⟨z.1, by rw [← eo]; exact z.2⟩)
theorem c_X2_makeLive {r : Int} (sw : shWakes w v) (sc : shCalls w c) (ss : shSetup w o) (hS : isS h o S) (okS : okS S) (hC : isC w h c n F L W) (ok : okC n F L W) (hr : inR r) (hv : h v 1 = 0) (hcap : n ≤ wl w (v + 1)) (hd : v + 1 < c ∨ c + 4 < v) (hd2 : v + 1 < o ∨ o + 7 < v) : CV mX2_makeLive [vR pl, vI r, vR c, vR o, vR v] w h (fun h' => liveS n F L W r (S 99) (S 98) (h' v 1) (h' (v + 1)) ∧ h' v 1 ≤ n ∧ ∀ b, b ≠ v → b ≠ v + 1 → h' b = h b) := by
  have hn := ok.1
  have hlen := okS.2.2.1
  have hpr := okS.2.2.2.1
  have key : ∀ (d : Nat) (u a b : Int) (h1 : AH), u + d = S 98 + 1 → 0 ≤ u → (0 ≤ h1 v 1 ∧ h1 v 1 ≤ a) → a ≤ b → b ≤ n → (-1 ≤ pv (h1 (v + 1)) (h1 v 1) ∧ pv (h1 (v + 1)) (h1 v 1) < u) → liveP n F L W r (S 99) (S 98) (h1 v 1) (h1 (v + 1)) → (∀ x, pv (h1 (v + 1)) (h1 v 1) < x → x < u → ¬ wantU n F L W r (S 99) (pv (h1 (v + 1)) (h1 v 1)) x) →
      (∀ k, 0 ≤ k → k < a → F k ≤ pv (h1 (v + 1)) (h1 v 1)) → (∀ k, a ≤ k → k < n → pv (h1 (v + 1)) (h1 v 1) < F k) → (∀ k, 0 ≤ k → k < b → F k < u) → (∀ k, b ≤ k → k < n → u ≤ F k) → (∀ q, q ≠ v → q ≠ v + 1 → h1 q = h q) →
      XV mX2_makeLive 9 [none, some (vI r), some (vR c), some (vR o), some (vR v), some (vI a), some (vI b), some (vI u)] [] w h1 (fun h' => liveS n F L W r (S 99) (S 98) (h' v 1) (h' (v + 1)) ∧ h' v 1 ≤ n ∧ ∀ b, b ≠ v → b ≠ v + 1 → h' b = h b) := by
    intro d
    induction d with
    | zero =>
      intro u a b h1 hu u0 hm hab hb hl hp hno q1 q2 q3 q4 hf
      have hS1 := isS_frame hS (h' := h1) (fun b q1 q2 => hf b (by omega) (by omega))
      refine r_X2_makeLive_9 ?_
      rw [hS1.2.2.1]
      exact ⟨ss.1, by omega, by omega, fun z => ⟨⟨hm.1, hp, fun x x0 x1 => hno x x0 (by omega)⟩, by omega, hf⟩, fun z => absurd z (by omega)⟩
    | succ d ih =>
      intro u a b h1 hu u0 hm hab hb hl hp hno q1 q2 q3 q4 hf
      have hS1 := isS_frame hS (h' := h1) (fun b q1 q2 => hf b (by omega) (by omega))
      have hC1 := isC_frame hC (h' := h1) (fun b q1 q2 => hf b (by omega) (by omega))
      have hc := hC1.1
      refine r_X2_makeLive_9 ?_
      rw [hS1.2.2.1]
      refine ⟨ss.1, by omega, by omega, fun z => absurd z (by omega), fun z => ?_⟩
      -- the calls that come at u
      have inner : ∀ (e : Nat) (b : Int), b + e = n → a ≤ b → (∀ k, 0 ≤ k → k < b → F k ≤ u) → (∀ k, b ≤ k → k < n → u ≤ F k) → XV mX2_makeLive 18 [none, some (vI r), some (vR c), some (vR o), some (vR v), some (vI a), some (vI b), some (vI u)] [] w h1 (fun h' => liveS n F L W r (S 99) (S 98) (h' v 1) (h' (v + 1)) ∧ h' v 1 ≤ n ∧ ∀ b, b ≠ v → b ≠ v + 1 → h' b = h b) := by
        intro e
        induction e with
        | zero =>
          intro b hb hab q3 q4
          refine r_X2_makeLive_18 ?_
          rw [hc.1, hS1.2.2.2.1]
          refine ⟨sc.1, by omega, by omega, fun y => ⟨ss.1, ?_⟩, fun y => absurd y (by omega)⟩
          refine (c_X0_wantWake sc hC1 ok hr (by omega) (by omega) (by omega) hab (by omega)).mono ?_
          rintro x h' ⟨hx, rfl⟩
          have wi := want_iff (r := r) (p := S 99) (a := a) (b := b) (u := u) ok hl.1 (by omega) hab (by omega) q1 (fun k k0 k1 => ⟨q2 k k0 (by omega), q3 k (by omega) k1⟩) (fun k k0 k1 => by omega) hno
          refine ⟨by omega, fun z0 => ?_, fun z0 => ⟨sw.1, (c_X7_add sw ⟨hm.1, by omega⟩).mono ?_⟩⟩
          · have nw : ¬ wantU n F L W r (S 99) (pv (h' (v + 1)) (h' v 1)) u := fun q => by
              rcases hx with hx | hx
              · omega
              · exact hx.2 (wi.mpr q)
            refine ih (u + 1) a b h' (by omega) (by omega) hm hab (by omega) (by omega) hp (fun x x0 x1 => ?_) q1 q2 (fun k k0 k1 => by have := q3 k k0 k1; omega) (fun k k0 k1 => by omega) hf
            by_cases ex : x = u
            · rw [ex]; exact nw
            · exact hno x x0 (by omega)
          · intro h2 e2
            obtain ⟨a1, a2, a3, a4⟩ := addW e2
            have yw : wantU n F L W r (S 99) (pv (h' (v + 1)) (h' v 1)) u := by
              rcases hx with hx | hx
              · exact wi.mp hx.2
              · omega
            have ws : wantS F L W r u (S 99) a b := wi.mpr yw
            have ec : ∀ i : Int, 0 ≤ i → i < h' v 1 → h2 (v + 1) i = h' (v + 1) i := fun i _ q => a3 i (by omega)
            have ep : pv (h2 (v + 1)) (h' v 1 + 1) = u := by
              unfold pv
              rw [if_neg (by omega), show h' v 1 + 1 - 1 = h' v 1 by omega, a2]
            have wlt := ws.1
            refine ih (u + 1) b b h2 (by omega) (by omega) (by omega) (Int.le_refl _) (by omega) (by rw [a1, ep]; omega) ?_ (fun x x0 x1 => by rw [a1, ep] at x0; omega) (fun k k0 k1 => by rw [a1, ep]; exact q3 k k0 k1) (fun k k0 k1 => by omega) (fun k k0 k1 => by have := q3 k k0 k1; omega) (fun k k0 k1 => by omega) (fun q y1 y2 => (a4 q y1 y2).trans (hf q y1 y2))
            rw [a1]
            intro i i0 i1
            by_cases ei : i = h' v 1
            · subst ei
              rw [a2, pv_congr ec]
              exact ⟨⟨hl.2, by omega, yw⟩, hno⟩
            · have := hp i i0 (by omega)
              rw [a3 i ei, pv_congr (fun j b0 b1 => ec j b0 (by omega))]
              exact this
        | succ e ihe =>
          intro b hb hab q3 q4
          obtain ⟨g1, g2, g3⟩ := hC1.2 b (by omega) (by omega)
          obtain ⟨b1, b2⟩ := ok.2.1 b (by omega) (by omega)
          refine r_X2_makeLive_18 ?_
          rw [hc.1, g1, if_pos ⟨by omega, by omega⟩, hS1.2.2.2.1]
          refine ⟨sc.1, by omega, by omega, fun y => absurd y (by omega), fun y => ⟨sc, by omega, by omega, by omega, fun y2 => ⟨ss.1, ?_⟩, fun y2 => ?_⟩⟩
          · refine (c_X0_wantWake sc hC1 ok hr (by omega) (by omega) (by omega) hab (by omega)).mono ?_
            rintro x h' ⟨hx, rfl⟩
            have q5 : ∀ k, b ≤ k → k < n → u < F k := fun k k0 k1 => by have := ok.2.2 b k (by omega) k0 k1; omega
            have wi := want_iff (r := r) (p := S 99) (a := a) (b := b) (u := u) ok hl.1 (by omega) hab (by omega) q1 (fun k k0 k1 => ⟨q2 k k0 (by omega), q3 k (by omega) k1⟩) q5 hno
            refine ⟨by omega, fun z0 => ?_, fun z0 => ⟨sw.1, (c_X7_add sw ⟨hm.1, by omega⟩).mono ?_⟩⟩
            · have nw : ¬ wantU n F L W r (S 99) (pv (h' (v + 1)) (h' v 1)) u := fun q => by
                rcases hx with hx | hx
                · omega
                · exact hx.2 (wi.mpr q)
              refine ih (u + 1) a b h' (by omega) (by omega) hm hab (by omega) (by omega) hp (fun x x0 x1 => ?_) q1 q2 (fun k k0 k1 => by have := q3 k k0 k1; omega) (fun k k0 k1 => by have := q5 k k0 k1; omega) hf
              by_cases ex : x = u
              · rw [ex]; exact nw
              · exact hno x x0 (by omega)
            · intro h2 e2
              obtain ⟨a1, a2, a3, a4⟩ := addW e2
              have yw : wantU n F L W r (S 99) (pv (h' (v + 1)) (h' v 1)) u := by
                rcases hx with hx | hx
                · exact wi.mp hx.2
                · omega
              have ws : wantS F L W r u (S 99) a b := wi.mpr yw
              have ec : ∀ i : Int, 0 ≤ i → i < h' v 1 → h2 (v + 1) i = h' (v + 1) i := fun i _ q => a3 i (by omega)
              have ep : pv (h2 (v + 1)) (h' v 1 + 1) = u := by
                unfold pv
                rw [if_neg (by omega), show h' v 1 + 1 - 1 = h' v 1 by omega, a2]
              have wlt := ws.1
              refine ih (u + 1) b b h2 (by omega) (by omega) (by omega) (Int.le_refl _) (by omega) (by rw [a1, ep]; omega) ?_ (fun x x0 x1 => by rw [a1, ep] at x0; omega) (fun k k0 k1 => by rw [a1, ep]; exact q3 k k0 k1) (fun k k0 k1 => by rw [a1, ep]; exact q5 k k0 k1) (fun k k0 k1 => by have := q3 k k0 k1; omega) (fun k k0 k1 => by have := q5 k k0 k1; omega) (fun q y1 y2 => (a4 q y1 y2).trans (hf q y1 y2))
              rw [a1]
              intro i i0 i1
              by_cases ei : i = h' v 1
              · subst ei
                rw [a2, pv_congr ec]
                exact ⟨⟨hl.2, by omega, yw⟩, hno⟩
              · have := hp i i0 (by omega)
                rw [a3 i ei, pv_congr (fun j b0 b1 => ec j b0 (by omega))]
                exact this
          · refine ihe (b + 1) (by omega) (by omega) (fun k k0 k1 => ?_) (fun k k0 k1 => q4 k (by omega) k1)
            by_cases ek : k = b
            · rw [ek]; omega
            · exact q3 k k0 (by omega)
      exact inner (n - b).toNat b (by omega) hab (fun k k0 k1 => by have := q3 k k0 k1; omega) q4
  refine e_X2_makeLive (r_X2_makeLive_0 ?_)
  have ep : pv (h (v + 1)) (h v 1) = -1 := by rw [hv]; unfold pv; rw [if_pos (by omega)]
  have hF : ∀ k, 0 ≤ k → k < n → 0 ≤ F k := fun k k0 k1 => (ok.2.1 k k0 k1).1.1
  refine key (S 98 + 1).toNat 0 0 0 h (by omega) (by omega) (by omega) (by omega) (by omega) (by rw [ep]; omega) (fun i i0 i1 => by omega) (fun x x0 x1 => by rw [ep] at x0; omega) (fun k k0 k1 => by omega) (fun k k0 k1 => by rw [ep]; have := hF k k0 k1; omega) (fun k k0 k1 => by omega) (fun k k0 k1 => hF k k0 k1) (fun q _ _ => rfl)
end
