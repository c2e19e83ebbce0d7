theorem mem_pl (ws : List Cond) (ps : List Nat) (hp : ws = ps.filterMap (fun i => lw_tbl[i]?)) (hg : ws.all goodWord = true) : ∀ w ∈ ws, w ∈ lw_g := by
  intro w hw
  have h1 := List.all_eq_true.mp hg w hw
  rw [hp] at hw
  obtain ⟨i, -, hi⟩ := List.mem_filterMap.mp hw
  exact mem_g i hi h1
theorem inX0 : ∀ w ∈ wsX00, w ∈ lw_g := mem_pl _ [217, 219, 221, 223, 225] (by decide +kernel) (by decide +kernel)
theorem inX1 : ∀ w ∈ wsX10, w ∈ lw_g := mem_pl _ [281, 283, 285, 287, 289, 291, 293, 295, 297, 299, 301] (by decide +kernel) (by decide +kernel)
theorem inX2 : ∀ w ∈ wsX20, w ∈ lw_g := mem_pl _ [252, 254, 256] (by decide +kernel) (by decide +kernel)
theorem inX3 : ∀ w ∈ wsX30, w ∈ lw_g := mem_pl _ [144, 146, 148] (by decide +kernel) (by decide +kernel)
theorem inX4 : ∀ w ∈ wsX40, w ∈ lw_g := mem_pl _ [316, 318, 320, 322, 324, 326] (by decide +kernel) (by decide +kernel)
theorem inX5 : ∀ w ∈ wsX50, w ∈ lw_g := mem_pl _ [177, 179, 181, 183, 185, 187, 189, 191, 193, 195, 197, 199] (by decide +kernel) (by decide +kernel)
theorem inX6 : ∀ w ∈ wsX60, w ∈ lw_g := mem_pl _ [127, 129, 131, 133, 135, 137] (by decide +kernel) (by decide +kernel)
theorem inX7 : ∀ w ∈ wsX70, w ∈ lw_g := mem_pl _ [238, 240] (by decide +kernel) (by decide +kernel)
theorem inX8 : ∀ w ∈ wsX80, w ∈ lw_g := mem_pl _ [343, 345, 347, 349, 351, 353, 355, 357, 359, 361, 363, 365, 367, 369] (by decide +kernel) (by decide +kernel)
theorem inX9 : ∀ w ∈ wsX90, w ∈ lw_g := mem_pl _ [1091, 1093, 1095, 1097, 1099, 1101, 1103, 1105, 1107, 1109, 1111, 1113, 1115, 1117, 1119, 1121, 1123, 1125, 1127, 1129, 1131, 1133, 1135, 1137, 1139, 1141, 1143, 1145, 1147, 1149, 1151, 1153, 1155, 1157, 1159, 1161, 1163, 1165, 1167] (by decide +kernel) (by decide +kernel)
/-- a class of ours: its number, its fields' words, types and names -/
def clsI (k : Nat) (C : String) (N : Nat) : Prop := vwCl[k]? = some (C, TC k, N) ∧ (∀ w ∈ u_ws C (TC k) N, w ∈ lw_g) ∧ (∀ i, i < N → parseFieldDescriptor (TC k i).2.2.1 = some (tyC k i)) ∧ ∀ a, a < N → ∀ b, b < N → a ≠ b → (TC k a).2.1 ≠ (TC k b).2.1
theorem clX0 : clsI 0 RX0 5 := ⟨rfl, inX0, tyX0_ok, nmX0⟩
theorem clX1 : clsI 1 RX1 11 := ⟨rfl, inX1, tyX1_ok, nmX1⟩
theorem clX2 : clsI 2 RX2 3 := ⟨rfl, inX2, tyX2_ok, nmX2⟩
theorem clX3 : clsI 3 RX3 3 := ⟨rfl, inX3, tyX3_ok, nmX3⟩
theorem clX4 : clsI 4 RX4 6 := ⟨rfl, inX4, tyX4_ok, nmX4⟩
theorem clX5 : clsI 5 RX5 12 := ⟨rfl, inX5, tyX5_ok, nmX5⟩
theorem clX6 : clsI 6 RX6 6 := ⟨rfl, inX6, tyX6_ok, nmX6⟩
theorem clX7 : clsI 7 RX7 2 := ⟨rfl, inX7, tyX7_ok, nmX7⟩
theorem clX8 : clsI 8 RX8 14 := ⟨rfl, inX8, tyX8_ok, nmX8⟩
theorem clX9 : clsI 9 RX9 39 := ⟨rfl, inX9, tyX9_ok, nmX9⟩
section SB
variable {M : MI} {pc pc' : Nat} {ls ls' : List (Option AV)} {sk : List AV} {w : WS} {h : AH} {k n : Nat} {Q : Option AV → WS → AH → Prop}
theorem s_get {kc i N idx : Nat} {a : Int} {v : AV} (hd : decode (mC M) pc = .ok (.getfield idx, 3)) (hc : clsI kc (mO M) N) (hi : i < N) (hl : Cond.fieldLink (mO M) idx (TC kc i).1 (TC kc i).2.1 (TC kc i).2.2.1 ∈ lw_g) (ha : wt w a = 10 + kc) (hv : ∀ E, fv E w h kc a i = tr E v) (hp : pc + 3 = pc') (K : XA M pc' ls (v :: sk) w h k n Q) : XA M pc ls (vR a :: sk) w h k n Q := by
  intro p l e s m args below meth c H locs cells slots mc ms E lsM C hk hn hR hL hls
  subst hp
  obtain ⟨q, hq, hob⟩ := (hR.2.2.2.1 a).2.2.2.2.2.2.2 kc ha
  have hq2 : q = (mO M, TC kc, N) := Option.some.inj (hq.symm.trans hc.1)
  subst hq2
  have er : tr E (vR a) = .ref (ad E a) := rf_own (hR.id (by omega))
  rw [List.map_cons, er]
  have hF := hR.2.2.2.2.1
  refine va_get (D := eD E) (cl := vwCl) (tys := []) (ws := [(ad E a, .inr (kc, (List.range N).map (fun i => fv E w h kc a i)))]) (ci := kc) C.1 C.2.1 (Ts := lw_g) C.2.2.2.2.2.1 hc.2.1 C.2.2.2.2.1 hF ?_ 0 rfl hc.1 i hi (C.2.2.2.2.2.1 _ hl) (fun _ h => h) (v := tr E v) ?_ hd (K p l e s m args below meth c H locs cells slots mc ms E lsM C hk hn hR hL hls)
  · intro j x hx
    cases j with
    | zero =>
      simp only [List.getElem?_cons_zero, Option.some.injEq] at hx
      subst hx
      exact ⟨_, hq, hob.to fun i hi => by simp only [vp_V, List.getD_eq_getElem?_getD]; rw [List.getElem?_map, List.getElem?_range hi]; rfl⟩
    | succ j => simp at hx
  · rw [List.getElem?_map, List.getElem?_range hi, ← hv E]; rfl
theorem s_put {kc i N idx : Nat} {a x : Int} {v : AV} (hd : decode (mC M) pc = .ok (.putfield idx, 3)) (hc : clsI kc (mO M) N) (hi : i < N) (hl : Cond.fieldLink (mO M) idx (TC kc i).1 (TC kc i).2.1 (TC kc i).2.2.1 ∈ lw_g) (hf : (TC kc i).2.2.2 = false) (ha : wt w a = 10 + kc) (hn1 : ∀ E, narrow (tyC kc i) (tr E v) = tr E v ∧ fits (tyC kc i) (tr E v) = true) (hv : ∀ E y, fvv E (tyC kc i) false x y = tr E v) {j0 : Int} (hj0 : ((i : Nat) : Int) = j0) (hp : pc + 3 = pc') (K : XA M pc' ls sk w (st h a j0 x) k n Q) : XA M pc ls (v :: vR a :: sk) w h k n Q := by
  intro p l e s m args below meth c H locs cells slots mc ms E lsM C hk hn hR hL hls
  subst hp; subst hj0
  obtain ⟨q, hq, cell, q1, q2, q3, q4⟩ := (hR.2.2.2.1 a).2.2.2.2.2.2.2 kc ha
  have hq2 : q = (mO M, TC kc, N) := Option.some.inj (hq.symm.trans hc.1)
  subst hq2
  have er : tr E (vR a) = .ref (ad E a) := rf_own (hR.id (by omega))
  rw [List.map_cons, List.map_cons, er]
  have hK := hR.2.2.2.2.1
  have hap := va_apart (own := mO M) C.2.2.2.2.2.1 hc.2.1 (tyC kc) hc.2.2.1 hc.2.2.2 hK hc.1
  obtain ⟨hS, hfc, kC, hkC, hkind⟩ := hK.1 kc _ hc.1
  obtain ⟨cf, kf, fi, f, hfi, hsl⟩ := hS i hi
  have hlay := C.2.2.2.2.2.1 _ (hc.2.1 _ (u_in_lay hi))
  unfold u_lay at hlay
  rw [if_neg (by rw [hf]; decide)] at hlay
  have hst := (u_facts hfc hkC (u_lays C.2.2.2.2.2.1 hc.2.1 hi) hfi).1
  have h6 := u_store hfc hkC hkind hlay hfi (hc.2.2.1 i hi) (hn1 E).1 (hn1 E).2
  refine W.putK C.1 C.2.1 (f := f) ⟨C.2.2.2.2.1, C.2.2.2.2.2.1 _ hl, ⟨_, _, _, hfi⟩, hst⟩ (by rw [q2]; exact h6) q1 q3 (by rw [hsl]; exact k2_hasslot (q4 i hi)) rfl rfl hd fun H' e1 e2 e3 => ?_
  rw [hsl] at e1
  have ho : 1 ≤ a := hR.own (by omega) (by omega) (by omega)
  refine K p l e s m args below meth c H' _ cells slots mc ms E lsM C hk hn (hR.set ho e2 e3 ?_ (fun b hb => st_row h _ _ hb)) ?_ hls
  · refine ⟨fun z => by omega, fun z => by omega, fun z => by omega, fun z => by omega, fun z => by omega, fun z => by omega, fun z => by omega, fun k1 z => ?_⟩
    have hk1 : k1 = kc := by omega
    subst hk1
    refine ⟨_, hq, t_OB.to ⟨_, e1, q2, q3, t_set q4 hap hi (tr E v)⟩ fun j hj => ?_⟩
    unfold updV
    by_cases hji : j = i
    · subst hji
      rw [if_pos rfl]
      unfold fv
      rw [st_same, hf, hv]
    · rw [if_neg hji]
      unfold fv
      rw [st_slot h a a x (show (j : Int) ≠ (i : Int) by omega)]
  · intro z hz
    rcases List.mem_append.mp hz with z1 | z1
    · exact hL z z1
    · rw [List.mem_singleton.mp z1]
      show eB E ≤ ad E a
      rw [ad_own ho]; omega
theorem s_iald {a i : Int} (hd : decode (mC M) pc = .ok (.iaload, 1)) (ha : wt w a = 1) (h0 : 0 ≤ i) (h1 : i < wl w a) (hp : pc + 1 = pc') (K : XA M pc' ls (vI (h a i) :: sk) w h k n Q) : XA M pc ls (vI i :: vR a :: sk) w h k n Q := by
  intro p l e s m args below meth c H locs cells slots mc ms E lsM C hk hn hR hL hls
  subst hp
  obtain ⟨cell, c1, c2, c3, c4, c5⟩ := (hR.2.2.2.1 a).1 ha
  have hr := hR.len (by omega) h0 h1
  have hi : i.toNat < wn w a := by unfold wl at h1; omega
  have er : tr E (vR a) = .ref (ad E a) := rf_own (hR.id (by omega))
  rw [List.map_cons, List.map_cons, er]
  refine W.iald C.1 C.2.1 c1 c2 c3 (by rw [c4]; exact i32_in h0 (by unfold wl at h1; exact h1) hr) (v := tr E (vI (h a i))) ?_ rfl rfl hd (K p l e s m args below meth c H locs cells slots mc ms E lsM C hk hn hR hL hls)
  rw [i32_ix hr, c5 _ hi]
  have : ((i.toNat : Nat) : Int) = i := by omega
  dsimp only; rw [this]; rfl
theorem s_iald6 {a i : Int} (hd : decode (mC M) pc = .ok (.iaload, 1)) (ha : wt w a = 6) (h0 : 0 ≤ i) (h1 : i < wl w a) (hp : pc + 1 = pc') (K : XA M pc' ls (vI (h a i) :: sk) w h k n Q) : XA M pc ls (vI i :: vR a :: sk) w h k n Q := by
  intro p l e s m args below meth c H locs cells slots mc ms E lsM C hk hn hR hL hls
  subst hp
  obtain ⟨cell, c1, c2, c3, c4, c5⟩ := (hR.2.2.2.1 a).2.2.2.2.1 ha
  have hr := hR.len (by omega) h0 h1
  have hi : i.toNat < wn w a := by unfold wl at h1; omega
  have er : tr E (vR a) = .ref (ad E a) := rf_own (hR.id (by omega))
  rw [List.map_cons, List.map_cons, er]
  refine W.iald C.1 C.2.1 c1 c2 c3 (by rw [c4]; exact i32_in h0 (by unfold wl at h1; exact h1) hr) (v := tr E (vI (h a i))) ?_ rfl rfl hd (K p l e s m args below meth c H locs cells slots mc ms E lsM C hk hn hR hL hls)
  rw [i32_ix hr, c5 _ hi]
  have : ((i.toNat : Nat) : Int) = i := by omega
  dsimp only; rw [this]; rfl
theorem s_bald {a i : Int} (hd : decode (mC M) pc = .ok (.baload, 1)) (ha : wt w a = 2) (h0 : 0 ≤ i) (h1 : i < wl w a) (hp : pc + 1 = pc') (K : XA M pc' ls (vI (h a i) :: sk) w h k n Q) : XA M pc ls (vI i :: vR a :: sk) w h k n Q := by
  intro p l e s m args below meth c H locs cells slots mc ms E lsM C hk hn hR hL hls
  subst hp
  obtain ⟨cell, c1, c2, c3, c4, c5⟩ := (hR.2.2.2.1 a).2.1 ha
  have hr := hR.len (by omega) h0 h1
  have hi : i.toNat < wn w a := by unfold wl at h1; omega
  have er : tr E (vR a) = .ref (ad E a) := rf_own (hR.id (by omega))
  rw [List.map_cons, List.map_cons, er]
  refine W.bald C.1 C.2.1 c1 c2 c3 (by rw [c4]; exact i32_in h0 (by unfold wl at h1; exact h1) hr) (v := tr E (vI (h a i))) ?_ rfl rfl hd (K p l e s m args below meth c H locs cells slots mc ms E lsM C hk hn hR hL hls)
  rw [i32_ix hr, c5 _ hi]
  have : ((i.toNat : Nat) : Int) = i := by omega
  dsimp only; rw [this]; rfl
theorem s_zald {a i : Int} (hd : decode (mC M) pc = .ok (.baload, 1)) (ha : wt w a = 3) (h0 : 0 ≤ i) (h1 : i < wl w a) (hp : pc + 1 = pc') (K : XA M pc' ls (vI (h a i) :: sk) w h k n Q) : XA M pc ls (vI i :: vR a :: sk) w h k n Q := by
  intro p l e s m args below meth c H locs cells slots mc ms E lsM C hk hn hR hL hls
  subst hp
  obtain ⟨cell, c1, c2, c3, c4, c5⟩ := (hR.2.2.2.1 a).2.2.1 ha
  have hr := hR.len (by omega) h0 h1
  have hi : i.toNat < wn w a := by unfold wl at h1; omega
  have er : tr E (vR a) = .ref (ad E a) := rf_own (hR.id (by omega))
  rw [List.map_cons, List.map_cons, er]
  refine W.zald C.1 C.2.1 c1 c2 c3 (by rw [c4]; exact i32_in h0 (by unfold wl at h1; exact h1) hr) (v := tr E (vI (h a i))) ?_ rfl rfl hd (K p l e s m args below meth c H locs cells slots mc ms E lsM C hk hn hR hL hls)
  rw [i32_ix hr, c5 _ hi]
  have : ((i.toNat : Nat) : Int) = i := by omega
  dsimp only; rw [this]; rfl
theorem s_lald {a i : Int} (hd : decode (mC M) pc = .ok (.laload, 1)) (ha : wt w a = 4) (h0 : 0 ≤ i) (h1 : i < wl w a) (hp : pc + 1 = pc') (K : XA M pc' ls (vL (h a i) :: sk) w h k n Q) : XA M pc ls (vI i :: vR a :: sk) w h k n Q := by
  intro p l e s m args below meth c H locs cells slots mc ms E lsM C hk hn hR hL hls
  subst hp
  obtain ⟨cell, c1, c2, c3, c4, c5⟩ := (hR.2.2.2.1 a).2.2.2.1 ha
  have hr := hR.len (by omega) h0 h1
  have hi : i.toNat < wn w a := by unfold wl at h1; omega
  have er : tr E (vR a) = .ref (ad E a) := rf_own (hR.id (by omega))
  rw [List.map_cons, List.map_cons, er]
  refine W.lald C.1 C.2.1 c1 c2 c3 (by rw [c4]; exact i32_in h0 (by unfold wl at h1; exact h1) hr) (v := tr E (vL (h a i))) ?_ rfl rfl hd (K p l e s m args below meth c H locs cells slots mc ms E lsM C hk hn hR hL hls)
  rw [i32_ix hr, c5 _ hi]
  have : ((i.toNat : Nat) : Int) = i := by omega
  dsimp only; rw [this]; rfl
theorem s_lald7 {a i : Int} (hd : decode (mC M) pc = .ok (.laload, 1)) (ha : wt w a = 7) (h0 : 0 ≤ i) (h1 : i < wl w a) (hp : pc + 1 = pc') (K : XA M pc' ls (vL (h a i) :: sk) w h k n Q) : XA M pc ls (vI i :: vR a :: sk) w h k n Q := by
  intro p l e s m args below meth c H locs cells slots mc ms E lsM C hk hn hR hL hls
  subst hp
  obtain ⟨cell, c1, c2, c3, c4, c5⟩ := (hR.2.2.2.1 a).2.2.2.2.2.1 ha
  have hr := hR.len (by omega) h0 h1
  have hi : i.toNat < wn w a := by unfold wl at h1; omega
  have er : tr E (vR a) = .ref (ad E a) := rf_own (hR.id (by omega))
  rw [List.map_cons, List.map_cons, er]
  refine W.lald C.1 C.2.1 c1 c2 c3 (i32_in h0 (by unfold wl at h1; have := c4.1; omega) hr) (v := tr E (vL (h a i))) ?_ rfl rfl hd (K p l e s m args below meth c H locs cells slots mc ms E lsM C hk hn hR hL hls)
  rw [i32_ix hr, c5 _ hi]
  have : ((i.toNat : Nat) : Int) = i := by omega
  dsimp only; rw [this]; rfl
theorem s_aald {a i : Int} (hd : decode (mC M) pc = .ok (.aaload, 1)) (ha : wt w a = 5) (h0 : 0 ≤ i) (h1 : i < wl w a) (hp : pc + 1 = pc') (K : XA M pc' ls (vR (h a i) :: sk) w h k n Q) : XA M pc ls (vI i :: vR a :: sk) w h k n Q := by
  intro p l e s m args below meth c H locs cells slots mc ms E lsM C hk hn hR hL hls
  subst hp
  obtain ⟨⟨cell, c1, c2, c3, c4, c5⟩, -⟩ := (hR.2.2.2.1 a).2.2.2.2.2.2.1 ha
  have hr := hR.len (by omega) h0 h1
  have hi : i.toNat < wn w a := by unfold wl at h1; omega
  have er : tr E (vR a) = .ref (ad E a) := rf_own (hR.id (by omega))
  rw [List.map_cons, List.map_cons, er]
  refine W.aald C.1 C.2.1 c1 c2 rfl c3 (by rw [c4]; exact i32_in h0 (by unfold wl at h1; exact h1) hr) (v := tr E (vR (h a i))) ?_ rfl rfl hd (K p l e s m args below meth c H locs cells slots mc ms E lsM C hk hn hR hL hls)
  rw [i32_ix hr, c5 _ hi]
  have : ((i.toNat : Nat) : Int) = i := by omega
  dsimp only; rw [this]; rfl
theorem s_iast {a i x : Int} (hd : decode (mC M) pc = .ok (.iastore, 1)) (ha : wt w a = 1) (h0 : 0 ≤ i) (h1 : i < wl w a) (hp : pc + 1 = pc') (K : XA M pc' ls sk w (st h a i x) k n Q) : XA M pc ls (vI x :: vI i :: vR a :: sk) w h k n Q := by
  intro p l e s m args below meth c H locs cells slots mc ms E lsM C hk hn hR hL hls
  subst hp
  obtain ⟨cell, c1, c2, c3, c4, c5⟩ := (hR.2.2.2.1 a).1 ha
  have hr := hR.len (by omega) h0 h1
  have hi : i.toNat < wn w a := by unfold wl at h1; omega
  have er : tr E (vR a) = .ref (ad E a) := rf_own (hR.id (by omega))
  have ho : 1 ≤ a := hR.own (by omega) (by omega) (by omega)
  rw [List.map_cons, List.map_cons, List.map_cons, er]
  refine W.iast C.1 C.2.1 c1 c2 c3 (by rw [c4]; exact i32_in h0 (by unfold wl at h1; exact h1) hr) rfl rfl hd fun H' e1 e2 e3 => ?_
  rw [i32_ix hr] at e1
  refine K p l e s m args below meth c H' _ cells slots mc ms E lsM C hk hn (hR.set ho e2 e3 ?_ (fun b hb => st_row h _ _ hb)) ?_ hls
  · have key : arrAt s E w H' a .int (fun j => .int (Int32.ofInt (st h a i x a j))) := by
      refine ⟨_, e1, ⟨c2.1, c2.2⟩, c3, by rw [← c4]; simp [Cell.setSlot], fun j hj => ?_⟩
      show (cell.setSlot i.toNat _).slots[j]? = _
      unfold Cell.setSlot
      rw [Array.getElem?_setIfInBounds]
      by_cases hji : i.toNat = j
      · rw [if_pos hji, if_pos (by rw [c4]; omega)]
        have : (j : Int) = i := by omega
        dsimp only; rw [this, st_same]
      · rw [if_neg hji, c5 j hj]; dsimp only; rw [st_slot h a a x (show (j : Int) ≠ i by omega)]
    refine ⟨fun z => key, fun z => by omega, fun z => by omega, fun z => by omega, fun z => by omega, fun z => by omega, fun z => by omega, fun k1 z => by omega⟩
  · intro z hz
    rcases List.mem_append.mp hz with z1 | z1
    · exact hL z z1
    · rw [List.mem_singleton.mp z1]
      show eB E ≤ ad E a
      rw [ad_own ho]; omega
theorem s_bast {a i x : Int} (hd : decode (mC M) pc = .ok (.bastore, 1)) (ha : wt w a = 2) (h0 : 0 ≤ i) (h1 : i < wl w a) (hx : narrow .byte (.int (Int32.ofInt x)) = .int (Int32.ofInt x)) (hp : pc + 1 = pc') (K : XA M pc' ls sk w (st h a i x) k n Q) : XA M pc ls (vI x :: vI i :: vR a :: sk) w h k n Q := by
  intro p l e s m args below meth c H locs cells slots mc ms E lsM C hk hn hR hL hls
  subst hp
  obtain ⟨cell, c1, c2, c3, c4, c5⟩ := (hR.2.2.2.1 a).2.1 ha
  have hr := hR.len (by omega) h0 h1
  have hi : i.toNat < wn w a := by unfold wl at h1; omega
  have er : tr E (vR a) = .ref (ad E a) := rf_own (hR.id (by omega))
  have ho : 1 ≤ a := hR.own (by omega) (by omega) (by omega)
  rw [List.map_cons, List.map_cons, List.map_cons, er]
  refine W.bast C.1 C.2.1 c1 c2 c3 (by rw [c4]; exact i32_in h0 (by unfold wl at h1; exact h1) hr) rfl rfl hd fun H' e1 e2 e3 => ?_
  rw [i32_ix hr, hx] at e1
  refine K p l e s m args below meth c H' _ cells slots mc ms E lsM C hk hn (hR.set ho e2 e3 ?_ (fun b hb => st_row h _ _ hb)) ?_ hls
  · have key : arrAt s E w H' a .byte (fun j => .int (Int32.ofInt (st h a i x a j))) := by
      refine ⟨_, e1, ⟨c2.1, c2.2⟩, c3, by rw [← c4]; simp [Cell.setSlot], fun j hj => ?_⟩
      show (cell.setSlot i.toNat _).slots[j]? = _
      unfold Cell.setSlot
      rw [Array.getElem?_setIfInBounds]
      by_cases hji : i.toNat = j
      · rw [if_pos hji, if_pos (by rw [c4]; omega)]
        have : (j : Int) = i := by omega
        dsimp only; rw [this, st_same]
      · rw [if_neg hji, c5 j hj]; dsimp only; rw [st_slot h a a x (show (j : Int) ≠ i by omega)]
    refine ⟨fun z => by omega, fun z => key, fun z => by omega, fun z => by omega, fun z => by omega, fun z => by omega, fun z => by omega, fun k1 z => by omega⟩
  · intro z hz
    rcases List.mem_append.mp hz with z1 | z1
    · exact hL z z1
    · rw [List.mem_singleton.mp z1]
      show eB E ≤ ad E a
      rw [ad_own ho]; omega
theorem s_zast {a i x : Int} (hd : decode (mC M) pc = .ok (.bastore, 1)) (ha : wt w a = 3) (h0 : 0 ≤ i) (h1 : i < wl w a) (hx : narrow .boolean (.int (Int32.ofInt x)) = .int (Int32.ofInt x)) (hp : pc + 1 = pc') (K : XA M pc' ls sk w (st h a i x) k n Q) : XA M pc ls (vI x :: vI i :: vR a :: sk) w h k n Q := by
  intro p l e s m args below meth c H locs cells slots mc ms E lsM C hk hn hR hL hls
  subst hp
  obtain ⟨cell, c1, c2, c3, c4, c5⟩ := (hR.2.2.2.1 a).2.2.1 ha
  have hr := hR.len (by omega) h0 h1
  have hi : i.toNat < wn w a := by unfold wl at h1; omega
  have er : tr E (vR a) = .ref (ad E a) := rf_own (hR.id (by omega))
  have ho : 1 ≤ a := hR.own (by omega) (by omega) (by omega)
  rw [List.map_cons, List.map_cons, List.map_cons, er]
  refine W.zast C.1 C.2.1 c1 c2 c3 (by rw [c4]; exact i32_in h0 (by unfold wl at h1; exact h1) hr) rfl rfl hd fun H' e1 e2 e3 => ?_
  rw [i32_ix hr, hx] at e1
  refine K p l e s m args below meth c H' _ cells slots mc ms E lsM C hk hn (hR.set ho e2 e3 ?_ (fun b hb => st_row h _ _ hb)) ?_ hls
  · have key : arrAt s E w H' a .boolean (fun j => .int (Int32.ofInt (st h a i x a j))) := by
      refine ⟨_, e1, ⟨c2.1, c2.2⟩, c3, by rw [← c4]; simp [Cell.setSlot], fun j hj => ?_⟩
      show (cell.setSlot i.toNat _).slots[j]? = _
      unfold Cell.setSlot
      rw [Array.getElem?_setIfInBounds]
      by_cases hji : i.toNat = j
      · rw [if_pos hji, if_pos (by rw [c4]; omega)]
        have : (j : Int) = i := by omega
        dsimp only; rw [this, st_same]
      · rw [if_neg hji, c5 j hj]; dsimp only; rw [st_slot h a a x (show (j : Int) ≠ i by omega)]
    refine ⟨fun z => by omega, fun z => by omega, fun z => key, fun z => by omega, fun z => by omega, fun z => by omega, fun z => by omega, fun k1 z => by omega⟩
  · intro z hz
    rcases List.mem_append.mp hz with z1 | z1
    · exact hL z z1
    · rw [List.mem_singleton.mp z1]
      show eB E ≤ ad E a
      rw [ad_own ho]; omega
theorem s_last {a i x : Int} (hd : decode (mC M) pc = .ok (.lastore, 1)) (ha : wt w a = 4) (h0 : 0 ≤ i) (h1 : i < wl w a) (hp : pc + 1 = pc') (K : XA M pc' ls sk w (st h a i x) k n Q) : XA M pc ls (vL x :: vI i :: vR a :: sk) w h k n Q := by
  intro p l e s m args below meth c H locs cells slots mc ms E lsM C hk hn hR hL hls
  subst hp
  obtain ⟨cell, c1, c2, c3, c4, c5⟩ := (hR.2.2.2.1 a).2.2.2.1 ha
  have hr := hR.len (by omega) h0 h1
  have hi : i.toNat < wn w a := by unfold wl at h1; omega
  have er : tr E (vR a) = .ref (ad E a) := rf_own (hR.id (by omega))
  have ho : 1 ≤ a := hR.own (by omega) (by omega) (by omega)
  rw [List.map_cons, List.map_cons, List.map_cons, er]
  refine W.last C.1 C.2.1 c1 c2 c3 (by rw [c4]; exact i32_in h0 (by unfold wl at h1; exact h1) hr) rfl rfl hd fun H' e1 e2 e3 => ?_
  rw [i32_ix hr] at e1
  refine K p l e s m args below meth c H' _ cells slots mc ms E lsM C hk hn (hR.set ho e2 e3 ?_ (fun b hb => st_row h _ _ hb)) ?_ hls
  · have key : arrAt s E w H' a .long (fun j => .long (Int64.ofInt (st h a i x a j))) := by
      refine ⟨_, e1, ⟨c2.1, c2.2⟩, c3, by rw [← c4]; simp [Cell.setSlot], fun j hj => ?_⟩
      show (cell.setSlot i.toNat _).slots[j]? = _
      unfold Cell.setSlot
      rw [Array.getElem?_setIfInBounds]
      by_cases hji : i.toNat = j
      · rw [if_pos hji, if_pos (by rw [c4]; omega)]
        have : (j : Int) = i := by omega
        dsimp only; rw [this, st_same]
      · rw [if_neg hji, c5 j hj]; dsimp only; rw [st_slot h a a x (show (j : Int) ≠ i by omega)]
    refine ⟨fun z => by omega, fun z => by omega, fun z => by omega, fun z => key, fun z => by omega, fun z => by omega, fun z => by omega, fun k1 z => by omega⟩
  · intro z hz
    rcases List.mem_append.mp hz with z1 | z1
    · exact hL z z1
    · rw [List.mem_singleton.mp z1]
      show eB E ≤ ad E a
      rw [ad_own ho]; omega
theorem s_alen1 {a : Int} (hd : decode (mC M) pc = .ok (.arraylength, 1)) (ha : wt w a = 1) (hp : pc + 1 = pc') (K : XA M pc' ls (vI (wl w a) :: sk) w h k n Q) : XA M pc ls (vR a :: sk) w h k n Q := by
  intro p l e s m args below meth c H locs cells slots mc ms E lsM C hk hn hR hL hls
  subst hp
  obtain ⟨cell, c1, c2, c3, c4, c5⟩ := (hR.2.2.2.1 a).1 ha
  have er : tr E (vR a) = .ref (ad E a) := rf_own (hR.id (by omega))
  rw [List.map_cons, er]
  exact W.alen (n := Int32.ofInt (wl w a)) C.1 C.2.1 c1 c2 (by rw [c4]; exact Int32.ofInt_eq_ofNat.symm) rfl rfl hd (K p l e s m args below meth c H locs cells slots mc ms E lsM C hk hn hR hL hls)
theorem s_alen2 {a : Int} (hd : decode (mC M) pc = .ok (.arraylength, 1)) (ha : wt w a = 2) (hp : pc + 1 = pc') (K : XA M pc' ls (vI (wl w a) :: sk) w h k n Q) : XA M pc ls (vR a :: sk) w h k n Q := by
  intro p l e s m args below meth c H locs cells slots mc ms E lsM C hk hn hR hL hls
  subst hp
  obtain ⟨cell, c1, c2, c3, c4, c5⟩ := (hR.2.2.2.1 a).2.1 ha
  have er : tr E (vR a) = .ref (ad E a) := rf_own (hR.id (by omega))
  rw [List.map_cons, er]
  exact W.alen (n := Int32.ofInt (wl w a)) C.1 C.2.1 c1 c2 (by rw [c4]; exact Int32.ofInt_eq_ofNat.symm) rfl rfl hd (K p l e s m args below meth c H locs cells slots mc ms E lsM C hk hn hR hL hls)
theorem s_alen3 {a : Int} (hd : decode (mC M) pc = .ok (.arraylength, 1)) (ha : wt w a = 3) (hp : pc + 1 = pc') (K : XA M pc' ls (vI (wl w a) :: sk) w h k n Q) : XA M pc ls (vR a :: sk) w h k n Q := by
  intro p l e s m args below meth c H locs cells slots mc ms E lsM C hk hn hR hL hls
  subst hp
  obtain ⟨cell, c1, c2, c3, c4, c5⟩ := (hR.2.2.2.1 a).2.2.1 ha
  have er : tr E (vR a) = .ref (ad E a) := rf_own (hR.id (by omega))
  rw [List.map_cons, er]
  exact W.alen (n := Int32.ofInt (wl w a)) C.1 C.2.1 c1 c2 (by rw [c4]; exact Int32.ofInt_eq_ofNat.symm) rfl rfl hd (K p l e s m args below meth c H locs cells slots mc ms E lsM C hk hn hR hL hls)
theorem s_alen6 {a : Int} (hd : decode (mC M) pc = .ok (.arraylength, 1)) (ha : wt w a = 6) (hp : pc + 1 = pc') (K : XA M pc' ls (vI (wl w a) :: sk) w h k n Q) : XA M pc ls (vR a :: sk) w h k n Q := by
  intro p l e s m args below meth c H locs cells slots mc ms E lsM C hk hn hR hL hls
  subst hp
  obtain ⟨cell, c1, c2, c3, c4, c5⟩ := (hR.2.2.2.1 a).2.2.2.2.1 ha
  have er : tr E (vR a) = .ref (ad E a) := rf_own (hR.id (by omega))
  rw [List.map_cons, er]
  exact W.alen (n := Int32.ofInt (wl w a)) C.1 C.2.1 c1 c2 (by rw [c4]; exact Int32.ofInt_eq_ofNat.symm) rfl rfl hd (K p l e s m args below meth c H locs cells slots mc ms E lsM C hk hn hR hL hls)
theorem s_alen7 {a : Int} (hd : decode (mC M) pc = .ok (.arraylength, 1)) (ha : wt w a = 7) (hp : pc + 1 = pc') (K : XA M pc' ls (vI (wl w a) :: sk) w h k n Q) : XA M pc ls (vR a :: sk) w h k n Q := by
  intro p l e s m args below meth c H locs cells slots mc ms E lsM C hk hn hR hL hls
  subst hp
  obtain ⟨cell, c1, c2, c3, c4, c5⟩ := (hR.2.2.2.1 a).2.2.2.2.2.1 ha
  have er : tr E (vR a) = .ref (ad E a) := rf_own (hR.id (by omega))
  rw [List.map_cons, er]
  exact W.alen (n := Int32.ofInt (wl w a)) C.1 C.2.1 c1 c2 (c4.2.trans Int32.ofInt_eq_ofNat.symm) rfl rfl hd (K p l e s m args below meth c H locs cells slots mc ms E lsM C hk hn hR hL hls)
theorem s_alen5 {a : Int} (hd : decode (mC M) pc = .ok (.arraylength, 1)) (ha : wt w a = 5) (hp : pc + 1 = pc') (K : XA M pc' ls (vI (wl w a) :: sk) w h k n Q) : XA M pc ls (vR a :: sk) w h k n Q := by
  intro p l e s m args below meth c H locs cells slots mc ms E lsM C hk hn hR hL hls
  subst hp
  obtain ⟨cell, c1, c2, c3, c4, c5⟩ := ((hR.2.2.2.1 a).2.2.2.2.2.2.1 ha).1
  have er : tr E (vR a) = .ref (ad E a) := rf_own (hR.id (by omega))
  rw [List.map_cons, er]
  exact W.alen (n := Int32.ofInt (wl w a)) C.1 C.2.1 c1 c2 (by rw [c4]; exact Int32.ofInt_eq_ofNat.symm) rfl rfl hd (K p l e s m args below meth c H locs cells slots mc ms E lsM C hk hn hR hL hls)
end SB
