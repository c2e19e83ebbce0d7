/-! ===== the reference's half of what holds between two calls ===== -/
def mH (h : AH) (q : HS) : Prop := h 65 20 = q.1 0 ∧ (∀ k, 0 ≤ k → k < q.1 0 → h 77 k = q.2.1 k ∧ h 78 k = q.2.2.1 k ∧ h 79 k = q.2.2.2.1 k) ∧ (∀ k, 0 ≤ k → k < q.1 5 → h 80 k = q.2.2.2.2 k) ∧ (∀ k, q.1 5 ≤ k → k < q.1 0 → h 80 k = -1) ∧ h 65 21 = q.1 6 ∧ h 65 22 = q.1 8 ∧ h 65 23 = q.1 9 ∧ h 65 24 = q.1 10 ∧ h 65 25 = q.1 4
def invM (h : AH) (S : Int → Int) (q : HS) : Prop := isAll h S ∧ mH h q
theorem mH_k {h h' : AH} {q : HS} (k : kM h h') (a : mH h q) : mH h' q := by
  unfold mH
  rw [k.2 20 (by decide), k.2 21 (by decide), k.2 22 (by decide), k.2 23 (by decide), k.2 24 (by decide), k.2 25 (by decide), k.1 77 (by decide), k.1 78 (by decide), k.1 79 (by decide), k.1 80 (by decide)]
  exact a
theorem invM_k {h h' : AH} {S : Int → Int} {q : HS} (k : kM h h') (a : invM h S q) : invM h' S q := ⟨kM_all k a.1, mH_k k a.2⟩
/-- the reference's row holds these calls -/
def isPM (h : AH) (S : Int → Int) (P : List (Int × Int)) : Prop := h 65 10 = P.length ∧ ∀ (i : Nat) (x : Int × Int), P[i]? = some x → h 69 i = x.1 ∧ h 70 i = min (x.1 + slk S (S (24 + x.2))) (S 98) ∧ h 71 i = wgt S (S (24 + x.2)) ∧ h 72 i = x.2
section
variable {w : WS} {h : AH} {S : Int → Int}
theorem isPM_add {P : List (Int × Int)} {u t a b : Int} {h' : AH} (hP : isPM h S P) (e : h' = st (st (st (st (st h 69 (h 65 10) u) 70 (h 65 10) a) 71 (h 65 10) b) 72 (h 65 10) t) 65 10 (h 65 10 + 1)) (ea : a = min (u + slk S (S (24 + t))) (S 98)) (eb : b = wgt S (S (24 + t))) : isPM h' S (P ++ [(u, t)]) := by
  obtain ⟨p1, p2⟩ := hP
  refine ⟨by rw [e, st_same, p1]; simp, fun i x hx => ?_⟩
  rw [e, p1]
  by_cases c : i < P.length
  · rw [List.getElem?_append_left c] at hx
    have q := p2 i x hx
    refine ⟨?_, ?_, ?_, ?_⟩
    · rw [st_cell _ _ _ _ (by decide), st_cell _ _ _ _ (by decide), st_cell _ _ _ _ (by decide), st_cell _ _ _ _ (by decide), st_slot _ _ _ _ (by omega)]; exact q.1
    · rw [st_cell _ _ _ _ (by decide), st_cell _ _ _ _ (by decide), st_cell _ _ _ _ (by decide), st_slot _ _ _ _ (by omega), st_cell _ _ _ _ (by decide)]; exact q.2.1
    · rw [st_cell _ _ _ _ (by decide), st_cell _ _ _ _ (by decide), st_slot _ _ _ _ (by omega), st_cell _ _ _ _ (by decide), st_cell _ _ _ _ (by decide)]; exact q.2.2.1
    · rw [st_cell _ _ _ _ (by decide), st_slot _ _ _ _ (by omega), st_cell _ _ _ _ (by decide), st_cell _ _ _ _ (by decide), st_cell _ _ _ _ (by decide)]; exact q.2.2.2
  · rw [List.getElem?_append_right (by omega)] at hx
    have hi : i = P.length := by
      have := (List.getElem?_eq_some_iff.mp hx).1
      simp at this
      omega
    rw [hi, Nat.sub_self] at hx
    have ex : (u, t) = x := Option.some.inj hx
    rw [← ex, hi]
    refine ⟨?_, ?_, ?_, ?_⟩
    · rw [st_cell _ _ _ _ (by decide), st_cell _ _ _ _ (by decide), st_cell _ _ _ _ (by decide), st_cell _ _ _ _ (by decide), st_same]
    · rw [st_cell _ _ _ _ (by decide), st_cell _ _ _ _ (by decide), st_cell _ _ _ _ (by decide), st_same]; exact ea
    · rw [st_cell _ _ _ _ (by decide), st_cell _ _ _ _ (by decide), st_same]; exact eb
    · rw [st_cell _ _ _ _ (by decide), st_same]
theorem c_X9_laysCalls (sA : shA w) (A : isAll h S) (iN : okS S ∧ cN S ≤ 200) : CV mX9_laysCalls [vR 65] w h (fun h' => isPM h' S (clsA S) ∧ kM h h') := by
  have ok := iN.1
  have l3 := ok.2.2.1
  have l2 := ok.2.1
  have len : ∀ (u k : Nat), u < (S 98 + 1).toNat → k ≤ (S 97).toNat → (cls S u ++ rowT S u k).length ≤ 200 := by
    intro u k hu hk
    have a := cls_len S (a := u + 1) (b := (S 98 + 1).toNat) (by omega)
    have b := rowT_len S u hk
    rw [cls, List.length_append] at a
    rw [List.length_append]
    have := iN.2
    unfold cN clsA at this
    omega
  have inner : ∀ (u : Nat), u < (S 98 + 1).toNat → (∀ h1 : AH, isPM h1 S (cls S (u + 1)) → kM h h1 → XV mX9_laysCalls 7 [some (vR 65), some (vI ((u : Int) + 1)), none] [] w h1 (fun h' => isPM h' S (clsA S) ∧ kM h h')) → ∀ (d k : Nat) (h1 : AH), k + d = (S 97).toNat → isPM h1 S (cls S u ++ rowT S u k) → kM h h1 → XV mX9_laysCalls 20 [some (vR 65), some (vI u), some (vI k)] [] w h1 (fun h' => isPM h' S (clsA S) ∧ kM h h') := by
    intro u hu K d
    induction d with
    | zero =>
      intro k h1 hk P km
      have A1 := kM_all km A
      refine r_X9_laysCalls_20 sA ?_
      rw [A1 97 (by omega) (by omega)]
      refine ⟨by omega, by omega, fun _ => K h1 ?_ km, fun c => absurd c (by omega)⟩
      rw [cls, ← show k = (S 97).toNat by omega]; exact P
    | succ d ih =>
      intro k h1 hk P km
      have A1 := kM_all km A
      refine r_X9_laysCalls_20 sA ?_
      rw [A1 97 (by omega) (by omega)]
      refine ⟨by omega, by omega, fun c => absurd c (by omega), fun _ => (c_X9_calls sA A1 ok (by omega) (by omega)).eq ?_⟩
      by_cases c : calS S k u
      · rw [if_pos c]
        have nl := len u k hu (by omega)
        have p1 := P.1
        have kb := (ok.2.2.2.2.2.2 (k : Int) (by omega) (by omega)).1
        refine ⟨by decide, fun _ => ⟨by omega, by omega, fun h8 e8 => ?_⟩, fun z => absurd z (by decide)⟩
        have k8 : kM h h8 := by rw [e8]; exact kM_st km (by omega)
        have A8 := kM_all k8 A
        have t8 : h8 65 10 = h1 65 10 := by rw [e8, st_cell _ _ _ _ (by decide)]
        have o8 : h8 66 (24 + k) = S (24 + k) := A8 _ (by omega) (by omega)
        rw [o8, t8]
        refine ⟨by omega, by omega, (c_X9_slack sA A8 ok kb).eq ?_⟩
        have sr := slk_r ok kb.1 kb.2
        refine (c_X9_cut sA A8 ok (by omega)).eq ⟨by omega, by omega, fun h18 e18 => ?_⟩
        have k18 : kM h h18 := by rw [e18]; exact kM_st k8 (by omega)
        have A18 := kM_all k18 A
        have t18 : h18 65 10 = h1 65 10 := by rw [e18, st_cell _ _ _ _ (by decide)]; exact t8
        rw [A18 (24 + k) (by omega) (by omega), t18]
        refine (c_X9_weight sA A18 ok kb).eq ⟨by omega, by omega, fun h24 e24 => ?_⟩
        have k24 : kM h h24 := by rw [e24]; exact kM_st k18 (by omega)
        have t24 : h24 65 10 = h1 65 10 := by rw [e24, st_cell _ _ _ _ (by decide)]; exact t18
        rw [t24]
        refine ⟨by omega, by omega, fun h28 e28 h30 e30 => ?_⟩
        have t28 : h28 65 10 = h1 65 10 := by rw [e28, st_cell _ _ _ _ (by decide)]; exact t24
        have k28 : kM h h28 := by rw [e28]; exact kM_st k24 (by omega)
        rw [t28] at e30
        have k30 : kM h h30 := by rw [e30]; exact kM_st k28 (by omega)
        refine ih (k + 1) h30 (by omega) ?_ k30
        have er : cls S u ++ rowT S u (k + 1) = (cls S u ++ rowT S u k) ++ [((u : Int), (k : Int))] := by rw [rowT, if_pos c, List.append_assoc]
        rw [er]
        exact isPM_add P (by rw [e30, e28, e24, e18, e8]) rfl rfl
      · rw [if_neg c]
        refine ⟨by decide, fun z => absurd rfl z, fun _ => ih (k + 1) h1 (by omega) ?_ km⟩
        rw [rowT, if_neg c, List.append_nil]; exact P
  have key : ∀ (d u : Nat) (h1 : AH), u + d = (S 98 + 1).toNat → isPM h1 S (cls S u) → kM h h1 → XV mX9_laysCalls 7 [some (vR 65), some (vI u), none] [] w h1 (fun h' => isPM h' S (clsA S) ∧ kM h h') := by
    intro d
    induction d with
    | zero =>
      intro u h1 hu P km
      refine r_X9_laysCalls_7 sA ?_
      rw [kM_all km A 98 (by omega) (by omega)]
      refine ⟨by omega, by omega, fun _ => ⟨?_, km⟩, fun c => absurd c (by omega)⟩
      unfold clsA
      rw [← show u = (S 98 + 1).toNat by omega]; exact P
    | succ d ih =>
      intro u h1 hu P km
      refine r_X9_laysCalls_7 sA ?_
      rw [kM_all km A 98 (by omega) (by omega)]
      refine ⟨by omega, by omega, fun c => absurd c (by omega), fun _ => ?_⟩
      exact inner u (by omega) (fun h2 P2 k2 => ih (u + 1) h2 (by omega) P2 k2) (S 97).toNat 0 h1 (by omega) (by rw [rowT, List.append_nil]; exact P) km
  refine e_X9_laysCalls (r_X9_laysCalls_0 sA fun h1 e1 => ?_)
  refine key (S 98 + 1).toNat 0 h1 (by omega) ⟨by rw [e1, st_same]; rfl, fun i x hx => ?_⟩ (by rw [e1]; exact kM_st (kM_rfl h) (by omega))
  rw [cls] at hx; simp at hx
theorem isPM_R (P : isPM h S (clsA S)) : isR h (cN S) (cF S) (cL S) (cW S) ∧ ∀ k, 0 ≤ k → k < cN S → h 72 k = cT S k := by
  have q : ∀ k, 0 ≤ k → k < cN S → h 69 k = cF S k ∧ h 70 k = cL S k ∧ h 71 k = cW S k ∧ h 72 k = cT S k := fun k k0 k1 => by
    have := P.2 k.toNat _ (clsA_get k0 k1)
    rw [show ((k.toNat : Nat) : Int) = k by omega] at this
    exact this
  exact ⟨⟨P.1, fun k k0 k1 => ⟨(q k k0 k1).1, (q k k0 k1).2.1, (q k k0 k1).2.2.1⟩⟩, fun k k0 k1 => (q k k0 k1).2.2.2⟩
theorem c_X9_laysPlan {p : Int} (sA : shA w) (A : isAll h S) (iN : okS S ∧ cN S ≤ 200) (hp : 0 ≤ p ∧ p < 6) : CI mX9_laysPlan [vR 65, vI p] w h (fun x h' => x = 1 ∧ isR h' (cN S) (cF S) (cL S) (cW S) ∧ planS (cN S) (cF S) (cL S) (cW S) S p (h' 65 12) (h' 73) ∧ kM h h') := by
  obtain ⟨ok, hL⟩ := inv_ok iN
  refine e_X9_laysPlan (r_X9_laysPlan_0 sA ⟨by omega, fun c => (c_X9_laysCalls sA A iN).mono ?_, fun c => absurd (by omega) c⟩)
  rintro h2 ⟨P, k2⟩
  have R := (isPM_R P).1
  have A2 := kM_all k2 A
  have dear : ∀ en, (en = 0 ∨ en = 1) → p - 1 = en → CV mX9_laysDearest [vR 65, vI en] w h2 (fun h' => (1 : Int) = 1 ∧ isR h' (cN S) (cF S) (cL S) (cW S) ∧ planS (cN S) (cF S) (cL S) (cW S) S p (h' 65 12) (h' 73) ∧ kM h h') := by
    intro en hen hpe
    refine (c_X9_laysDearest sA A2 iN.1 R ok hL hen).mono ?_
    rintro h3 ⟨d1, d2, d3⟩
    exact ⟨rfl, isR_f R (d3 10 (by decide)) (fun b b1 b2 => d2 b (by omega) (by omega)), Or.inr (Or.inl ⟨by omega, by rw [hpe]; exact d1⟩), kM_tr k2 ⟨fun b hb => d2 b (by omega) (by omega), fun i hi => d3 i (by omega)⟩⟩
  refine ⟨fun c1 => ⟨fun c2 => ?_, fun c2 => ⟨fun c3 => dear 0 (Or.inl rfl) (by omega), fun c3 => dear 1 (Or.inr rfl) (by omega)⟩⟩, fun c1 => ?_⟩
  · refine (c_X9_laysLive sA A2 iN.1 R ok (by omega)).mono ?_
    rintro h3 ⟨d1, d2⟩
    exact ⟨rfl, fV_R d2 R, Or.inr (Or.inr ⟨by omega, d1⟩), kM_tr k2 (fV_kM d2)⟩
  · refine (c_X9_laysFewest sA R ok).mono ?_
    rintro h3 ⟨d1, d2⟩
    exact ⟨rfl, fV_R d2 R, Or.inl ⟨c1, d1⟩, kM_tr k2 (fV_kM d2)⟩
theorem c_X9_laysPlanNo {p : Int} (sA : shA w) (hi : inR p) (hp : ¬ (0 ≤ p ∧ p < 6)) : CI mX9_laysPlan [vR 65, vI p] w h (fun x h' => x = 0 ∧ h' = h) := by
  refine e_X9_laysPlan (r_X9_laysPlan_0 sA ⟨hi, fun c => absurd (by omega) hp, fun c => ⟨rfl, rfl⟩⟩)
/-- the plan's row is that of every one that is meant -/
theorem plan_V {p m : Int} {t : Int → Int} (iN : okS S ∧ cN S ≤ 200) (a : planS (cN S) (cF S) (cL S) (cW S) S p (h 65 12) (h 73)) (b : planS (cN S) (cF S) (cL S) (cW S) S p m t) : isV h m t ∧ okW m t ∧ kept (cN S) (cF S) (cL S) m t := by
  obtain ⟨ok, hL⟩ := inv_ok iN
  have o := planS_one ok iN.1 hL a b
  exact ⟨⟨o.1, fun k k0 k1 => o.2 k k0 (by omega)⟩, planS_okW ok iN.1 hL b, planS_kept ok iN.1 hL b⟩
theorem c_X9_count {q : HS} {a : Int} (sA : shA w) (I : invM h S q) (iN : okS S ∧ cN S ≤ 200) (ha : inR a) : CI mX9_count [vR 65, vI a] w h (fun x h' => x = cntQ S q.1 (h 65 3) a ∧ kM h h') := by
  refine e_X9_count (r_X9_count_0 sA ((c_X9_laysCalls sA I.1 iN).mono ?_))
  rintro h1 ⟨P, k1⟩
  have A1 := kM_all k1 I.1
  obtain ⟨m1, m2, m3, m4, m5, m6, m7, m8, m9⟩ := mH_k k1 I.2
  have c4 := P.1
  refine ⟨ha, fun c => ⟨?_, k1⟩, fun c => ⟨?_, k1⟩, fun c => ⟨?_, k1⟩, fun c => ⟨?_, k1⟩, fun c => ⟨?_, k1⟩, fun c => ⟨?_, k1⟩, fun c => ⟨?_, k1⟩, fun c => ⟨?_, k1⟩, fun c => ⟨?_, k1⟩, fun c => ⟨?_, k1⟩⟩
  · rw [cntQ, if_pos c]; exact A1 96 (by omega) (by omega)
  · rw [cntQ, if_neg (by omega), if_pos c]; exact A1 97 (by omega) (by omega)
  · rw [cntQ, if_neg (by omega), if_neg (by omega), if_pos c]; exact c4
  · rw [cntQ, if_neg (by omega), if_neg (by omega), if_neg (by omega), if_pos c]; exact A1 98 (by omega) (by omega)
  · rw [cntQ, if_neg (by omega), if_neg (by omega), if_neg (by omega), if_neg (by omega), if_pos c]; exact A1 99 (by omega) (by omega)
  · rw [cntQ, if_neg (by omega), if_neg (by omega), if_neg (by omega), if_neg (by omega), if_neg (by omega), if_pos c]; exact A1 100 (by omega) (by omega)
  · rw [cntQ, if_neg (by omega), if_neg (by omega), if_neg (by omega), if_neg (by omega), if_neg (by omega), if_neg (by omega), if_pos c]; exact m7
  · rw [cntQ, if_neg (by omega), if_neg (by omega), if_neg (by omega), if_neg (by omega), if_neg (by omega), if_neg (by omega), if_neg (by omega), if_pos c]; exact m8
  · rw [cntQ, if_neg (by omega), if_neg (by omega), if_neg (by omega), if_neg (by omega), if_neg (by omega), if_neg (by omega), if_neg (by omega), if_neg (by omega), if_pos c]; exact k1.2 3 (by decide)
  · rw [cntQ, if_neg (by omega), if_neg (by omega), if_neg (by omega), if_neg (by omega), if_neg (by omega), if_neg (by omega), if_neg (by omega), if_neg (by omega), if_neg (by omega)]
theorem c_X9_timersOf {k : Int} (sA : shA w) (A : isAll h S) (ok : okS S) (hk : inR k) : CI mX9_timersOf [vR 65, vI k] w h (fun x h' => x = cntT S k (S 97).toNat ∧ h' = h) := by
  have l2 := ok.2.1
  have key : ∀ (d i : Nat), i + d = (S 97).toNat → XI mX9_timersOf 4 [some (vR 65), some (vI k), some (vI (cntT S k i)), some (vI i)] [] w h (fun x h' => x = cntT S k (S 97).toNat ∧ h' = h) := by
    intro d
    induction d with
    | zero =>
      intro i hi
      refine r_X9_timersOf_4 sA ?_
      rw [A 97 (by omega) (by omega)]
      exact ⟨by omega, by omega, fun _ => ⟨by congr 1, rfl⟩, fun c => absurd c (by omega)⟩
    | succ d ih =>
      intro i hi
      refine r_X9_timersOf_4 sA ?_
      have b := (ok.2.2.2.2.2.2 (i : Int) (by omega) (by omega)).1
      have k96 := ok.1
      have I := ih (i + 1) (by omega)
      rw [A 97 (by omega) (by omega), A (24 + i) (by omega) (by omega)]
      refine ⟨by omega, by omega, fun c => absurd c (by omega), fun _ => ⟨by omega, by omega, by omega, hk, fun c => ?_, fun c => ?_⟩⟩
      · rw [cntT, if_neg c] at I; exact I
      · rw [cntT, if_pos c] at I; exact I
  exact e_X9_timersOf (r_X9_timersOf_0 sA (key (S 97).toNat 0 (by omega)))
theorem orZ_0 {x : Int} (hx : inR x) : orZ x 0 = x := by
  unfold orZ
  have e : Int32.ofInt x ||| Int32.ofInt 0 = Int32.ofInt x := by
    rw [show Int32.ofInt 0 = (0 : Int32) from rfl]
    exact Int32.or_zero
  rw [e, i32_t hx]
theorem c_X9_heirs {k : Int} (sA : shA w) (A : isAll h S) (ok : okS S) (hk : inR k) : CI mX9_heirs [vR 65, vI k] w h (fun x h' => x = heir S k (S 96).toNat ∧ h' = h) := by
  have l1 := ok.1
  have key : ∀ (d i : Nat), i + d = (S 96).toNat → XI mX9_heirs 4 [some (vR 65), some (vI k), some (vI (heir S k i)), some (vI i)] [] w h (fun x h' => x = heir S k (S 96).toNat ∧ h' = h) := by
    intro d
    induction d with
    | zero =>
      intro i hi
      refine r_X9_heirs_4 sA ?_
      rw [A 96 (by omega) (by omega)]
      exact ⟨by omega, by omega, fun _ => ⟨by congr 1, rfl⟩, fun c => absurd c (by omega)⟩
    | succ d ih =>
      intro i hi
      refine r_X9_heirs_4 sA ?_
      have I := ih (i + 1) (by omega)
      have nr := near_r ok 8 8 i (by omega)
      rw [A 96 (by omega) (by omega)]
      refine ⟨by omega, by omega, fun c => absurd c (by omega), fun _ => (c_X9_nearest sA A ok (by omega) (Or.inl rfl)).eq ⟨by omega, hk, fun c => ?_, fun c => ?_⟩⟩
      · rw [heir, if_neg c] at I; rw [orZ_0 (heir_r S k i)]; exact I
      · rw [heir, if_pos c] at I; exact I
  exact e_X9_heirs (r_X9_heirs_0 sA (key (S 96).toNat 0 (by omega)))
theorem c_X9_kind {k a : Int} (sA : shA w) (A : isAll h S) (ok : okS S) (hk : inR k) (ha : inR a) : CI mX9_kind [vR 65, vI k, vI a] w h (fun x h' => x = kndA S k a ∧ h' = h) := by
  have l1 := ok.1
  refine e_X9_kind (r_X9_kind_0 sA ?_)
  rw [A 96 (by omega) (by omega)]
  refine ⟨hk, by omega, fun c => ⟨ha, fun d => ⟨by omega, by omega, ?_, rfl⟩, fun d => (c_X9_slack sA A ok c).eq ⟨?_, rfl⟩, fun d => (c_X9_weight sA A ok c).eq ⟨?_, rfl⟩, fun d => ⟨by omega, by omega, ?_, rfl⟩, fun d => ⟨by omega, by omega, ?_, rfl⟩, fun d => (c_X9_timersOf sA A ok hk).eq ⟨?_, rfl⟩, fun d => (c_X9_heirs sA A ok hk).eq ⟨?_, rfl⟩, fun d => ⟨?_, rfl⟩⟩, fun c => ⟨?_, rfl⟩⟩
  · rw [kndA, if_neg (fun q => q c), if_pos d, Int.zero_add]; exact A k c.1 (by omega)
  · rw [kndA, if_neg (fun q => q c), if_neg (by omega), if_pos d]
  · rw [kndA, if_neg (fun q => q c), if_neg (by omega), if_neg (by omega), if_pos d]
  · rw [kndA, if_neg (fun q => q c), if_neg (by omega), if_neg (by omega), if_neg (by omega), if_pos d]; exact A _ (by omega) (by omega)
  · rw [kndA, if_neg (fun q => q c), if_neg (by omega), if_neg (by omega), if_neg (by omega), if_neg (by omega), if_pos d]; exact A _ (by omega) (by omega)
  · rw [kndA, if_neg (fun q => q c), if_neg (by omega), if_neg (by omega), if_neg (by omega), if_neg (by omega), if_neg (by omega), if_pos d]
  · rw [kndA, if_neg (fun q => q c), if_neg (by omega), if_neg (by omega), if_neg (by omega), if_neg (by omega), if_neg (by omega), if_neg (by omega), if_pos d]
  · rw [kndA, if_neg (fun q => q c), if_neg (by omega), if_neg (by omega), if_neg (by omega), if_neg (by omega), if_neg (by omega), if_neg (by omega), if_neg (by omega)]
  · rw [kndA, if_pos c]
theorem c_X9_slacken {k s : Int} (sA : shA w) (A : isAll h S) (ok : okS S) (hk : inR k) (hs : inR s) : CI mX9_slacken [vR 65, vI k, vI s] w h (fun x h' => (slkC S k s ∧ x = 1 ∧ h' = st h 66 (8 + k) s) ∨ (¬ slkC S k s ∧ x = 0 ∧ h' = h)) := by
  have l1 := ok.1
  refine e_X9_slacken (r_X9_slacken_0 sA ?_)
  rw [A 96 (by omega) (by omega)]
  refine ⟨hk, by omega, fun c => Or.inr ⟨fun q => c q.1, rfl, rfl⟩, fun c => ⟨hs, fun c2 => Or.inr ⟨fun q => c2 q.2.1, rfl, rfl⟩, fun c2 => ⟨by omega, by omega, ?_⟩⟩⟩
  have b := (ok.2.2.2.2.2.1 k c.1 c.2).2.1
  rw [A (8 + k) (by omega) (by omega)]
  exact ⟨by omega, fun c3 h7 e7 => Or.inl ⟨⟨c, c2, fun e => c3 e.symm⟩, rfl, e7⟩, fun c3 => Or.inr ⟨fun q => q.2.2 c3.symm, rfl, rfl⟩⟩
theorem c_X9_call {k a : Int} (sA : shA w) (A : isAll h S) (iN : okS S ∧ cN S ≤ 200) (hk : inR k) (ha : inR a) : CI mX9_call [vR 65, vI k, vI a] w h (fun x h' => x = calA S k a ∧ kM h h') := by
  have n0 := cN_0 S
  have n2 := iN.2
  refine e_X9_call (r_X9_call_0 sA ((c_X9_laysCalls sA A iN).mono ?_))
  rintro h1 ⟨P, k1⟩
  obtain ⟨R, T⟩ := isPM_R P
  rw [R.1]
  refine ⟨hk, by omega, fun c => ⟨ha, fun d0 => ⟨fun d1 => ⟨fun d2 => ⟨fun d3 => ⟨?_, k1⟩, fun d3 => ⟨by omega, by omega, ?_, k1⟩⟩, fun d2 => ⟨by omega, by omega, ?_, k1⟩⟩, fun d1 => ⟨by omega, by omega, ?_, k1⟩⟩, fun d0 => ⟨by omega, by omega, ?_, k1⟩⟩, fun c => ⟨?_, k1⟩⟩
  · rw [calA, if_neg (fun q => q (by omega)), if_neg d0, if_neg d1, if_neg d2, if_neg d3]
  · rw [calA, if_neg (fun q => q (by omega)), if_neg d0, if_neg d1, if_neg d2, if_pos d3]; exact T k (by omega) (by omega)
  · rw [calA, if_neg (fun q => q (by omega)), if_neg d0, if_neg d1, if_pos d2]; exact (R.2 k (by omega) (by omega)).2.2
  · rw [calA, if_neg (fun q => q (by omega)), if_neg d0, if_pos d1]; exact (R.2 k (by omega) (by omega)).2.1
  · rw [calA, if_neg (fun q => q (by omega)), if_pos d0]; exact (R.2 k (by omega) (by omega)).1
  · rw [calA, if_pos (by omega)]
end
