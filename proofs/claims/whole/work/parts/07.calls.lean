def acat (v : AV) : Nat := match v with
  | .inr (.inr _) => 2
  | _ => 1
theorem tr_acat (E : EV) (v : AV) : (tr E v).category = acat v := by
  match v with
  | .inl x => rfl
  | .inr (.inl a) => show (rf E a).category = 1; unfold rf; split <;> rfl
  | .inr (.inr x) => rfl
/-- the locals at a method's entry -/
def ent (L : Nat) (av : List AV) : List (Option AV) := 
  let l := av.flatMap (fun v => match v with | .inr (.inr x) => [some (vL x), none] | v => [some v])
  l ++ List.replicate (L - l.length) none
theorem lvl_app {E : EV} (a b : List (Option AV)) (i : Nat) : lvl E i (a ++ b) = lvl E i a ++ lvl E (i + a.length) b := by
  induction a generalizing i with
  | nil => simp [lvl]
  | cons x t ih =>
    cases x with
    | none => simp only [List.cons_append, lvl, ih, List.length_cons]; rw [show i + 1 + t.length = i + (t.length + 1) by omega]
    | some v => simp only [List.cons_append, lvl, ih, List.length_cons]; rw [show i + 1 + t.length = i + (t.length + 1) by omega]
theorem lvl_none {E : EV} (n i : Nat) : lvl E i (List.replicate n none) = [] := by
  induction n generalizing i with
  | zero => rfl
  | succ n ih => rw [List.replicate_succ, lvl, ih]
theorem lvl_ent {E : EV} (av : List AV) : ∀ i : Nat, lvl E i (av.flatMap (fun v => match v with | .inr (.inr x) => [some (vL x), none] | v => [some v])) = lv_args i (av.map (tr E)) := by
  induction av with
  | nil => intro i; rfl
  | cons v t ih =>
    intro i
    rw [List.flatMap_cons, List.map_cons, lv_args, lvl_app, tr_acat]
    match v with
    | .inl x => rw [ih]; rfl
    | .inr (.inl a) => rw [ih]; rfl
    | .inr (.inr x) => rw [ih]; rfl
theorem lg_len {E : EV} (av : List AV) : (lg_sl (av.map (tr E))).length = (av.flatMap (fun v => match v with | .inr (.inr x) => [some (vL x), none] | v => [some v])).length := by
  induction av with
  | nil => rfl
  | cons v t ih =>
    have e : ∀ (u : Value) (us : List Value), (lg_sl (u :: us)).length = u.category + (lg_sl us).length := by
      intro u us
      rcases lv_cat u with e | e <;> simp [lg_sl, e] <;> omega
    rw [List.map_cons, e, List.flatMap_cons, List.length_append, ← ih, tr_acat]
    match v with
    | .inl x => rfl
    | .inr (.inl a) => rfl
    | .inr (.inr x) => rfl
theorem Nst.same {u U : State} (hv : u.vm = U.vm) (N : Nst u) : Nst U := ⟨fun q hq => (N.1 q hq).same rfl hv, va_AO.moved (hv ▸ Vm.Alike.refl _) N.2⟩
theorem Nst.warm {s U : State} (hW : s.WarmedH U.vm) (N : Nst s) : Nst U := ⟨fun q hq => (N.1 q hq).warmM hW, va_AO.moved hW.alike N.2⟩
theorem Pc_blind (E : EV) (av : List AV) (w : WS) (h : AH) : FrameBlind (Pc E av w h) := fun _ U g mk q => ⟨q.1, Rep.moved (s := U) (U := U.calling g mk _) (Vm.Alike.refl U.vm) q.2.1, q.2.2.same (u := U) (U := U.calling g mk _) rfl⟩
/-- a contract out of a walk from the entry -/
theorem CA.of {M : MI} {av : List AV} {w : WS} {h : AH} {k n : Nat} {Q : Option AV → WS → AH → Prop} (hy : plainName (mY M).cls = true) (hO : (mY M).cls = mO M) (hl : (av.flatMap (fun v => match v with | .inr (.inr x) => [some (vL x), none] | v => [some v])).length ≤ mL M) (X : XA M 0 (ent (mL M) av) [] w h k n Q) : CA M av w h k n Q := by
  intro l E
  refine Met.ofW (cc := mC M) (maxL := mL M) (ret := mR M) hy rfl ?_
  intro p e s m args below meth c s₁ B hml hv
  obtain ⟨rfl, hR, hN⟩ := hv
  have hts := atoms_spec (ws := wsM M) B.pre
  have hown : s.vm.findClass (mO M) = some m.cls := by rw [← hO]; exact findClass_of_methodNamed B.named
  have hin : meth.name = (mY M).name := (name_of_methodNamed B.named B.method).1
  have hent := lv_entry (av.map (tr E)) (n := mL M) (by rw [lg_len]; exact hl)
  rw [lg_entry_eq]
  exact X p l e s m _ below meth c s.heap [] 0 0 k n E _ ⟨B.exec, B.bytes, B.returns, hml, hown, fun w hw => hts w (List.mem_cons_of_mem _ hw), B.notSynchronized, hin, hN⟩ (by omega) (by omega) hR (fun q hq => by cases hq) (by
    refine lv_less hent ?_
    unfold ent
    dsimp only
    rw [lvl_app, lvl_none, List.append_nil, lvl_ent]
    exact fun q hq => hq)
theorem lw_gg {w : Cond} (h : w ∈ lw_g) : (w.onTables && w.keeps) = true ∨ ∃ ty, w = .arrayClass ty := good_of_word (List.mem_filter.mp h).2
theorem good_M {N : MI} (h : Cond.code (mY N) (mC N) (mL N) (mR N) ∈ lw_g) : GoodIn lw_g (wsM N) := fun w hw => (List.mem_cons.mp hw).elim (fun e => by rw [e]; exact ⟨h, lw_gg h⟩) (fun q => ⟨q, lw_gg q⟩)
section SC
variable {M : MI} {pc pc' : Nat} {ls ls' : List (Option AV)} {sk : List AV} {w : WS} {h : AH} {k n : Nat} {Q : Option AV → WS → AH → Prop}
theorem run_on {p : Program} {l : Launch} {e : Env} {s : State} {m : MethodId} {args : Array Value} {below : List Frame} {meth : Method} {c : Code} {H : Heap} {locs : List Loc} {cells slots mc ms k1 n1 : Nat} {E : EV} {lsM : Array Slot} {st0 : List Value} {a : Array Value}
    (hr : va_Run p l e (rmM M mc ms) s m args below meth c H locs cells slots k1 n1 (F0 m pc lsM st0) (sk.map (tr E)) (Qc E (fun r w' h' => XA M (pc + 3) ls (r.toList ++ sk) w' h' (k - k1) (n - n1) Q) a) (fun q => eB E ≤ q)) (hk1 : k1 ≤ k) (hn1 : n1 ≤ n)
    (C : Ctx M p s m args meth c) (hk : cells + k ≤ mc) (hn : slots + n ≤ ms) (hL : ∀ q ∈ locs, eB E ≤ q.base) (hls : lv_has lsM (mL M) (lvl E 0 ls)) :
    W p l e (rmM M mc ms) s m args below meth c H locs cells slots (MQ below (Qc E Q) args s mc ms (fun q => eB E ≤ q)) (F0 m pc lsM st0) := by
  intro T hT X
  obtain ⟨v, st₀, t, T', L, h0, X', hL1, e1, e2, ⟨r, w', h', hv, hR', hX⟩, go⟩ := hr T hT X
  have hv : v = r.map (tr E) := Outcome.returned.inj hv
  subst hv
  have hal : t.vm.Alike s.vm := by
    have h1 : s.vm.Alike T'.vm := X'.warmed.alike
    rw [e2] at h1
    exact h1.symm
  obtain ⟨t2, a1, b1⟩ := hX p l e s m args below meth c T'.heap (locs ++ L) (cells + k1) (slots + n1) mc ms E lsM C (by omega) (by omega) (by rw [e1]; exact hR'.moved hal) (fun q hq => (List.mem_append.mp hq).elim (hL q) (hL1 q)) hls T' rfl X'
  refine ⟨t2, go t2 ?_, b1⟩
  have es : (r.toList ++ sk).map (tr E) = (r.map (tr E)).toList ++ sk.map (tr E) := by cases r <;> simp
  rw [es] at a1
  exact a1
theorem sk_cat {E : EV} (hs : (sk.map acat).sum ≤ 8) : 2 * 0 + ((sk.map (tr E)).map fun v => v.category).sum ≤ 8 := by
  rw [List.map_map, show ((fun v : Value => v.category) ∘ tr E) = acat from funext (fun v => tr_acat E v)]
  omega
theorem s_callV {N : MI} {idx kc NF na k1 n1 : Nat} {a : Int} {av : List AV} (hd : decode (mC M) pc = .ok (.invokevirtual idx, 3)) (hl : Cond.methodLink (mO M) idx (mY N) ∈ lw_g) (hN : mOK N na) (hi : mOKi N) (hrk : mK N + 1 ≤ mK M ∧ 8 + (mL N + 11) + rl (mK N) ≤ rl (mK M)) (hc : vwCl[kc]? = some ((mY N).cls, TC kc, NF)) (ha : wt w a = 10 + kc) (hna : av.length = na) (hs : (sk.map acat).sum ≤ 8) (hk1 : k1 ≤ k) (hn1 : n1 ≤ n) (hp : pc + 3 = pc')
    (K : CA N (vR a :: av) w h k1 n1 (fun r w' h' => XA M pc' ls (r.toList ++ sk) w' h' (k - k1) (n - n1) Q)) : XA M pc ls (av.reverse ++ vR a :: sk) w h k n Q := by
  intro p l e s m args below meth c H locs cells slots mc ms E lsM C hk hn hR hL hls
  subst hp
  have er : tr E (vR a) = .ref (ad E a) := rf_own (hR.id (by omega))
  obtain ⟨q, hq, cell, q1, q2, q3, q4⟩ := (hR.2.2.2.1 a).2.2.2.2.2.2.2 kc ha
  have cw := cwV (R := rmM M mc ms) (own := mO M) (C := (mY N).cls) (index := idx) (rm := rmM N k1 n1) na C.2.2.2.2.2.1 (fun w hw => by
    unfold wsV at hw
    rcases List.mem_append.mp hw with z | z
    · have : w ∈ lw_g := by
        rcases List.mem_cons.mp z with rfl | z
        · exact hl
        rcases List.mem_cons.mp z with rfl | z
        · exact hi.1
        rcases List.mem_cons.mp z with rfl | z
        · exact hi.2
        rcases List.mem_cons.mp z with rfl | z
        · exact hN.2.1
        · cases z
      exact ⟨this, lw_gg this⟩
    · exact good_M hN.1 w z) rfl (mc := k1) (ms := n1) rfl rfl ⟨rfl, hN.2.2⟩ hrk
  have hst : (av.reverse ++ vR a :: sk).map (tr E) = (av.map (tr E)).reverse ++ .ref (ad E a) :: sk.map (tr E) := by
    rw [List.map_append, List.map_cons, er, List.map_reverse]
  rw [hst]
  exact run_on (va_runV (As := av.map (tr E)) (rest := sk.map (tr E)) ⟨C.1, C.2.1, C.2.2.2.1, C.2.2.2.2.1, C.2.2.2.2.2.1⟩ (K l E) cw ⟨Pc_blind E _ w h, ⟨cell, q1, by rw [q3]; rfl, by
    rw [q2]
    have := (hR.2.2.2.2.1.1 kc _ hc).2.1
    exact this⟩, fun U hU hW => ⟨by rw [← er]; rfl, by rw [hU]; exact hR.moved hW.alike, C.2.2.2.2.2.2.2.2.warm hW⟩⟩ rfl (by rw [List.length_map]; exact hna) hls.1 rfl (sk_cat hs) hd ⟨by show cells + k1 ≤ mc; omega, by show slots + n1 ≤ ms; omega⟩) hk1 hn1 C hk hn hL hls
theorem s_callS {N : MI} {idx na k1 n1 : Nat} {av : List AV} (hd : decode (mC M) pc = .ok (.invokestatic idx, 3)) (hl : Cond.methodLink (mO M) idx (mY N) ∈ lw_g) (hN : mOK N na) (hi : Cond.static (mY N) ∈ lw_g) (hrk : mK N + 1 ≤ mK M ∧ 8 + (mL N + 11) + rl (mK N) ≤ rl (mK M)) (hna : av.length = na) (hs : (sk.map acat).sum ≤ 8) (hk1 : k1 ≤ k) (hn1 : n1 ≤ n) (hp : pc + 3 = pc')
    (K : CA N av w h k1 n1 (fun r w' h' => XA M pc' ls (r.toList ++ sk) w' h' (k - k1) (n - n1) Q)) : XA M pc ls (av.reverse ++ sk) w h k n Q := by
  intro p l e s m args below meth c H locs cells slots mc ms E lsM C hk hn hR hL hls
  subst hp
  have cw := va_cwS (R := rmM M mc ms) (own := mO M) (index := idx) (rm := rmM N k1 n1) na C.2.2.2.2.2.1 (fun w hw => by
    unfold va_wsS at hw
    rcases List.mem_append.mp hw with z | z
    · have : w ∈ lw_g := by
        rcases List.mem_cons.mp z with rfl | z
        · exact hl
        rcases List.mem_cons.mp z with rfl | z
        · exact hi
        rcases List.mem_cons.mp z with rfl | z
        · exact hN.2.1
        · cases z
      exact ⟨this, lw_gg this⟩
    · exact good_M hN.1 w z) rfl (mc := k1) (ms := n1) rfl rfl hN.2.2 hrk
  have hst : (av.reverse ++ sk).map (tr E) = (av.map (tr E)).reverse ++ sk.map (tr E) := by
    rw [List.map_append, List.map_reverse]
  rw [hst]
  exact run_on (va_runS (As := av.map (tr E)) (rest := sk.map (tr E)) ⟨C.1, C.2.1, C.2.2.2.1, C.2.2.2.2.1, C.2.2.2.2.2.1⟩ (K l E) cw ⟨Pc_blind E _ w h, fun U hU hW => ⟨rfl, by rw [hU]; exact hR.moved hW.alike, C.2.2.2.2.2.2.2.2.warm hW⟩⟩ rfl (by rw [List.length_map]; exact hna) hls.1 rfl (sk_cat hs) hd ⟨by show cells + k1 ≤ mc; omega, by show slots + n1 ≤ ms; omega⟩) hk1 hn1 C hk hn hL hls
theorem s_callI {N : MI} {idx na k1 n1 : Nat} {a : Int} {av : List AV} (hd : decode (mC M) pc = .ok (.invokespecial idx, 3)) (hl : Cond.methodLink (mO M) idx (mY N) ∈ lw_g) (hN : mOK N na) (hi : Cond.instanceMethod (mY N) ∈ lw_g) (hni : (mY N).name = "<init>") (hrn : mR N = none) (hrk : mK N + 1 ≤ mK M ∧ 8 + (mL N + 11) + rl (mK N) ≤ rl (mK M)) (ha : a ≠ 0) (hna : av.length = na) (hs : (sk.map acat).sum ≤ 8) (hk1 : k1 ≤ k) (hn1 : n1 ≤ n) (hp : pc + 3 = pc')
    (K : CA N (vR a :: av) w h k1 n1 (fun r w' h' => XA M pc' ls (r.toList ++ sk) w' h' (k - k1) (n - n1) Q)) : XA M pc ls (av.reverse ++ vR a :: sk) w h k n Q := by
  intro p l e s m args below meth c H locs cells slots mc ms E lsM C hk hn hR hL hls
  subst hp
  have er : tr E (vR a) = .ref (ad E a) := rf_own ha
  have cw := cwI (R := rmM M mc ms) (own := mO M) (index := idx) (rm := rmM N k1 n1) (y := mY N) (bytes := mC N) (maxL := mL N) (ws := wsM N) (ws' := lw_g) na C.2.2.2.2.2.1 (good_M hN.1) (by unfold wsM; rw [hrn]) (mc := k1) (ms := n1) rfl rfl (C.2.2.2.2.2.1 _ hN.2.1) (C.2.2.2.2.2.1 _ hl) (C.2.2.2.2.2.1 _ hi) hni hN.2.2 hrk
  have hst : (av.reverse ++ vR a :: sk).map (tr E) = (av.map (tr E)).reverse ++ .ref (ad E a) :: sk.map (tr E) := by
    rw [List.map_append, List.map_cons, er, List.map_reverse]
  rw [hst]
  exact run_on (va_runI (As := av.map (tr E)) (rest := sk.map (tr E)) ⟨C.1, C.2.1, C.2.2.2.1, C.2.2.2.2.1, C.2.2.2.2.2.1⟩ (K l E) cw ⟨Pc_blind E _ w h, fun U hU hW => ⟨by rw [← er]; rfl, by rw [hU]; exact hR.moved hW.alike, C.2.2.2.2.2.2.2.2.warm hW⟩⟩ rfl (by rw [List.length_map]; exact hna) hls.1 rfl (sk_cat hs) hd ⟨by show cells + k1 ≤ mc; omega, by show slots + n1 ≤ ms; omega⟩) hk1 hn1 C hk hn hL hls
theorem s_callIN {N : MI} {idx na k1 n1 : Nat} {a : Int} {av : List AV} {host : String} (hd : decode (mC M) pc = .ok (.invokespecial idx, 3)) (hl : (mO M, idx, mY N, host) ∈ nests) (hN : mOK N na) (hi : Cond.instanceMethod (mY N) ∈ lw_g) (hni : (mY N).name = "<init>") (hrn : mR N = none) (hrk : mK N + 1 ≤ mK M ∧ 8 + (mL N + 11) + rl (mK N) ≤ rl (mK M)) (ha : a ≠ 0) (hna : av.length = na) (hs : (sk.map acat).sum ≤ 8) (hk1 : k1 ≤ k) (hn1 : n1 ≤ n) (hp : pc + 3 = pc')
    (K : CA N (vR a :: av) w h k1 n1 (fun r w' h' => XA M pc' ls (r.toList ++ sk) w' h' (k - k1) (n - n1) Q)) : XA M pc ls (av.reverse ++ vR a :: sk) w h k n Q := by
  intro p l e s m args below meth c H locs cells slots mc ms E lsM C hk hn hR hL hls
  subst hp
  have er : tr E (vR a) = .ref (ad E a) := rf_own ha
  have cw := va_cnB (args := args) (R := rmM M mc ms) (own := mO M) (host := host) (index := idx) (rm := rmM N k1 n1) (y := mY N) (bytes := mC N) (maxL := mL N) (ret := none) (ws := wsM N) (ws' := lw_g) na C.2.2.2.2.2.1 (good_M hN.1) (by unfold wsM; rw [hrn]) (mc := k1) (ms := n1) rfl rfl (C.2.2.2.2.2.2.2.2.1 _ hl) (C.2.2.2.2.2.1 _ hN.2.1) hN.2.2 hrk
  have hst : (av.reverse ++ vR a :: sk).map (tr E) = (av.map (tr E)).reverse ++ .ref (ad E a) :: sk.map (tr E) := by
    rw [List.map_append, List.map_cons, er, List.map_reverse]
  rw [hst]
  exact run_on (va_runIN (As := av.map (tr E)) (rest := sk.map (tr E)) ⟨C.1, C.2.1, C.2.2.2.1, C.2.2.2.2.1, C.2.2.2.2.2.1⟩ (K l E) ⟨cw, hni, C.2.2.2.2.2.1 _ hi⟩ ⟨Pc_blind E _ w h, fun U hU hW => ⟨by rw [← er]; rfl, by rw [hU]; exact hR.moved hW.alike, C.2.2.2.2.2.2.2.2.warm hW⟩⟩ rfl (by rw [List.length_map]; exact hna) hls.1 rfl (sk_cat hs) hd ⟨by show cells + k1 ≤ mc; omega, by show slots + n1 ≤ ms; omega⟩) hk1 hn1 C hk hn hL hls
end SC
