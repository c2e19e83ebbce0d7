/-! THE CLAIM OUT OF ONE WALK OF THE LAW'S BODY. Your part is whole_start (and what it stands on); all else here is the same for every law, but numbers. -/
def R_law : String := "WakeSaverLaw"
def lw_P (b : Addr) (xs : List Int32) (args : Array Value) (s : State) : Prop := args = #[.ref b] ∧ s.IntsAt b xs ∧ xs.length ≤ 3072 ∧ (Jvm.Cond.and given_1 narrow_1).before args s = true
def lw_Q (_ : Array Value) (s : State) (o : Outcome) (t : State) : Prop := o = .returned (some (.int 1)) ∧ Framed s o t [] 600000 7302250
def lw_Z (below : List Frame) (a : Array Value) (s : State) : State → Prop := fun t => ∃ o, t.status = .running ∧ Ended t below o ∧ lw_Q a s o t
/-- the law's own end, with 1 on the stack, nothing written that was there before, its room as the claim has it -/
theorem lw_ret {p : Program} {l : Launch} {e : Env} {s : State} {m : MethodId} {below : List Frame} {meth : Method} {c : Code} {b : Nat} (hx : p.tables.exec = Jvm.exec) (hb : c.code = code) (hr : meth.sig.returnType = ret) (hlocks : meth.locks = false) {pc : Nat} {H : Heap} {ls : Array Slot} (hdg : decode code pc = .ok (.ireturn, 1)) : W p l e room_1 s m #[Value.ref b] below meth c H [] 600000 7302250 (lw_Z below #[Value.ref b] s) (F0 m pc ls [.int 1]) := by
  intro T hT X
  obtain ⟨fs, hret, hrun, hended, hW, hframe⟩ := X.leave (v := some (.int 1)) (hlocks := hlocks) (fun h => by rw [hr] at h; cases h)
  have hmeth' : T.vm.method? m = some meth := X.method'
  refine ⟨T.setFrames fs, ?_, .returned (some (.int 1)), hrun, hended, rfl, ⟨_, rfl⟩, hW, hframe⟩
  jvm_step X.here [X.here.top, hx, hb, hdg, hmeth', hr, ret, narrow_b1]
  (try refine ⟨rfl, ?_⟩); (try refine ⟨rfl, ?_⟩)
  first | (intro acts; rw [hret _ acts rfl rfl rfl]) | rw [hret _ _ rfl rfl rfl]
  exact Steps.refl _
/-- what holds at the law's entry: the machine, the code, the tables' words (any of lw_tbl by 'hts w (by decide +kernel)'), the script of L ints xs at the cell b, what the Statement gives of the start (any of its parts by flat_of_before) -/
def lw_At (p : Program) (s : State) (m : MethodId) (meth : Method) (c : Code) (b L : Nat) (xs : Nat → Int32) : Prop :=
  p.tables.exec = Jvm.exec ∧ c.code = code ∧ meth.sig.returnType = ret ∧ c.maxLocals = 4 ∧ s.vm.findClass R_law = some m.cls ∧ (∀ w ∈ lw_tbl, w.before #[Value.ref b] s = true) ∧ va_X b L xs s s.heap ∧ b < s.heap.size ∧ meth.locks = false ∧ (Jvm.Cond.and given_1 narrow_1).before #[Value.ref b] s = true
/-- the quoted words, as the statement tells them -/
def qv (j : Int) : Int := if j = 0 then 1831780 else if j = 1 then 411 else if j = 2 then 10334396 else if j = 3 then 332864552 else if j = 4 then 305537 else if j = 5 then 3094387 else if j = 6 then 175125302 else if j = 7 then 8863997 else 388609
theorem kn_of {s : State} {args : Array Value} {k N : Nat} {C : String} (hg : ∀ w ∈ lw_g, w.before args s = true) (hc : clsI k C N) (hi : Cond.instantiable C N ∈ lw_g) : ∃ (cC : ClassId) (iS : Nat → Nat), ∀ q, vwCl[k]? = some q → u_Kn s q.1 q.2.1 q.2.2 cC iS := by
  obtain ⟨cC, iS, h⟩ := u_known hg hc.2.1 (hg _ hi)
  exact ⟨cC, iS, fun q hq => by rw [← Option.some.inj (hc.1.symm.trans hq)]; exact h⟩
def w00 (L : Nat) : WS := (0, fun a => if a = -1 then (6, L) else if a = -2 then (7, 9) else (0, 0), fun _ _ => 0)
def h00 (xs : Nat → Int32) : AH := fun a i => if a = -1 then (xs i.toNat).toInt else if a = -2 then qv i else 0
theorem drop0 {s s' : State} {J : List Loc} {k n : Nat} (h : s.sameButNew s' J k n) (hJ : ∀ x ∈ J, s.heap.size ≤ x.base) : s.sameButNew s' [] k n := by
  obtain ⟨h1, h2, h3, h4, h5, h6⟩ := h
  refine ⟨h1, h2, h3, h4, h5, fun a c hc => ?_⟩
  obtain ⟨c', g1, g2, g3, g4⟩ := h6 a c hc
  refine ⟨c', g1, g2, g3, fun i _ => g4 i fun hm => ?_⟩
  have hj : s.heap.size ≤ a := hJ _ hm
  have hl := (Array.getElem?_eq_some_iff.mp hc).1
  omega
set_option maxRecDepth 20000 in
theorem whole_start {p : Program} {e : Env} {s : State} {m : MethodId} {below : List Frame} {meth : Method} {c : Code} (l : Launch) (hflags : l.flags = flags0) {b L : Nat} {xs : Nat → Int32} (hL : L ≤ 3072) (C0 : lw_At p s m meth c b L xs) : W p l e room_1 s m #[Value.ref b] below meth c s.heap [] 0 0 (lw_Z below #[Value.ref b] s) (entryFrame m ([Value.ref b] : List Value).toArray 4) := by
  obtain ⟨hx, hb, hr, hml, hown, hts, hX, hbl, hlk, hgv⟩ := C0
  have hs := flat_of_before _ hgv
  have hg : ∀ w ∈ lw_g, w.before #[Value.ref b] s = true := fun w hw => hts w (List.mem_filter.mp hw).1
  have hArr : (Cond.arrayOf (.static "WakeSaverModel" "QUOTED" "[J") .long).before #[Value.ref b] s = true := hs _ (by decide +kernel)
  have hLen := va_eqt (hs (Cond.eq (.length (.static "WakeSaverModel" "QUOTED" "[J")) (.int 9)) (by decide +kernel))
  have hEl : ∀ j : Nat, j < 9 → (Term.elem (.static "WakeSaverModel" "QUOTED" "[J") (.int (Int32.ofNat j))).eval #[Value.ref b] s none [] s = some (.long (Int64.ofInt (qv j))) := by
    intro j hj
    have : j = 0 ∨ j = 1 ∨ j = 2 ∨ j = 3 ∨ j = 4 ∨ j = 5 ∨ j = 6 ∨ j = 7 ∨ j = 8 := by omega
    rcases this with rfl | rfl | rfl | rfl | rfl | rfl | rfl | rfl | rfl
    · exact va_eqtl (z := 1831780) (hs (Cond.eq (.elem (.static "WakeSaverModel" "QUOTED" "[J") (.int 0)) (.long 1831780)) (by decide +kernel))
    · exact va_eqtl (z := 411) (hs (Cond.eq (.elem (.static "WakeSaverModel" "QUOTED" "[J") (.int 1)) (.long 411)) (by decide +kernel))
    · exact va_eqtl (z := 10334396) (hs (Cond.eq (.elem (.static "WakeSaverModel" "QUOTED" "[J") (.int 2)) (.long 10334396)) (by decide +kernel))
    · exact va_eqtl (z := 332864552) (hs (Cond.eq (.elem (.static "WakeSaverModel" "QUOTED" "[J") (.int 3)) (.long 332864552)) (by decide +kernel))
    · exact va_eqtl (z := 305537) (hs (Cond.eq (.elem (.static "WakeSaverModel" "QUOTED" "[J") (.int 4)) (.long 305537)) (by decide +kernel))
    · exact va_eqtl (z := 3094387) (hs (Cond.eq (.elem (.static "WakeSaverModel" "QUOTED" "[J") (.int 5)) (.long 3094387)) (by decide +kernel))
    · exact va_eqtl (z := 175125302) (hs (Cond.eq (.elem (.static "WakeSaverModel" "QUOTED" "[J") (.int 6)) (.long 175125302)) (by decide +kernel))
    · exact va_eqtl (z := 8863997) (hs (Cond.eq (.elem (.static "WakeSaverModel" "QUOTED" "[J") (.int 7)) (.long 8863997)) (by decide +kernel))
    · exact va_eqtl (z := 388609) (hs (Cond.eq (.elem (.static "WakeSaverModel" "QUOTED" "[J") (.int 8)) (.long 388609)) (by decide +kernel))
  obtain ⟨t, ht, cellQ, q1, q2, q3, q4, q5, q6, -⟩ := va_Tof (N := 9) (A := fun q => s.heap.size ≤ q) (by decide) hArr hLen hEl (fun a ha => by omega)
  have hZ : va_Z "WakeSaverModel" "QUOTED" "[J" (.ref t) (fun q => s.heap.size ≤ q) s s.heap := va_Zref (hts _ (List.mem_of_getElem? (i := 1452) (by decide +kernel))) (hts _ (List.mem_of_getElem? (i := 100) (by decide +kernel))) ht (fun a ha => by omega)
  have htl : t < s.heap.size := (Array.getElem?_eq_some_iff.mp q1).1
  have hKn : ∀ k : Nat, ∃ (cC : ClassId) (iS : Nat → Nat), ∀ q, vwCl[k]? = some q → u_Kn s q.1 q.2.1 q.2.2 cC iS := by
    intro k
    match k with
    | 0 => exact kn_of hg clX0 cn_0
    | 1 => exact kn_of hg clX1 cn_1
    | 2 => exact kn_of hg clX2 cn_2
    | 3 => exact kn_of hg clX3 cn_3
    | 4 => exact kn_of hg clX4 cn_4
    | 5 => exact kn_of hg clX5 cn_5
    | 6 => exact kn_of hg clX6 cn_6
    | 7 => exact kn_of hg clX7 cn_7
    | 8 => exact kn_of hg clX8 cn_8
    | 9 => exact kn_of hg clX9 cn_9
    | n + 10 => exact ⟨0, fun _ => 0, fun q hq => by simp [vwCl] at hq⟩
  obtain ⟨D1, hD1⟩ := Classical.axiomOfChoice hKn
  obtain ⟨D2, hD2⟩ := Classical.axiomOfChoice hD1
  have hN : Nst s := by
    refine ⟨?_, va_AO.of (hts _ (List.mem_of_getElem? (i := 229) (by decide +kernel)))⟩
    refine List.forall_mem_cons.mpr ⟨va_Nw.of rfl (hts _ (List.mem_of_getElem? (i := 111) (by decide +kernel))), List.forall_mem_cons.mpr ⟨va_Nw.of rfl (hts _ (List.mem_of_getElem? (i := 117) (by decide +kernel))), List.forall_mem_cons.mpr ⟨va_Nw.of rfl (hts _ (List.mem_of_getElem? (i := 245) (by decide +kernel))), List.forall_mem_cons.mpr ⟨va_Nw.of rfl (hts _ (List.mem_of_getElem? (i := 262) (by decide +kernel))), List.forall_mem_cons.mpr ⟨va_Nw.of rfl (hts _ (List.mem_of_getElem? (i := 306) (by decide +kernel))), fun _ h => absurd h List.not_mem_nil⟩⟩⟩⟩⟩
  have hR : Rep s (s.heap.size, b, t, (D1, D2), s.heap) (w00 L) (h00 xs) s.heap := by
    refine ⟨rfl, fun _ _ => rfl, fun a ha => ?_, fun a => ?_, ⟨fun k q hq => hD2 k q hq, fun k q hq => by simp at hq⟩, hbl, htl, hZ, rfl⟩
    · by_cases z : a = -1
      · subst z; exact ⟨Or.inl ⟨rfl, rfl⟩, by show L ≤ 2147483647; omega⟩
      · by_cases z2 : a = -2
        · subst z2; exact ⟨Or.inr (Or.inl ⟨rfl, rfl⟩), by show 9 ≤ 2147483647; omega⟩
        · exact absurd (by simp [wt, w00, z, z2]) ha
    · by_cases z : a = -1
      · subst z
        have t6 : wt (w00 L) (-1) = 6 := rfl
        refine ⟨fun z => ?_, fun z => ?_, fun z => ?_, fun z => ?_, fun _ => ?_, fun z => ?_, fun z => ?_, fun k z => ?_⟩
        · rw [t6] at z; omega
        · rw [t6] at z; omega
        · rw [t6] at z; omega
        · rw [t6] at z; omega
        · obtain ⟨scr, x1, x2, x3, x4, x5⟩ := hX
          refine ⟨scr, x1, x2, x3, x4, fun j hj => ?_⟩
          rw [x5 j hj]
          show some (Value.int (xs j)) = some (Value.int (Int32.ofInt (xs ((j : Int).toNat)).toInt))
          rw [Int32.ofInt_toInt, Int.toNat_natCast]
        · rw [t6] at z; omega
        · rw [t6] at z; omega
        · rw [t6] at z; omega
      · by_cases z2 : a = -2
        · subst z2
          have t7 : wt (w00 L) (-2) = 7 := rfl
          refine ⟨fun z => ?_, fun z => ?_, fun z => ?_, fun z => ?_, fun z => ?_, fun _ => ?_, fun z => ?_, fun k z => ?_⟩
          · rw [t7] at z; omega
          · rw [t7] at z; omega
          · rw [t7] at z; omega
          · rw [t7] at z; omega
          · rw [t7] at z; omega
          · exact ⟨cellQ, q1, q2, q3, ⟨q4, q5⟩, fun j hj => q6 j hj⟩
          · rw [t7] at z; omega
          · rw [t7] at z; omega
        · have t0 : wt (w00 L) a = 0 := by simp [wt, w00, z, z2]
          refine ⟨fun z => ?_, fun z => ?_, fun z => ?_, fun z => ?_, fun z => ?_, fun z => ?_, fun z => ?_, fun k z => ?_⟩ <;> (rw [t0] at z; omega)
  have iX : ∀ v : Int32, inR v.toInt := fun v => ⟨Int32.minValue_le_toInt _, by have := Int32.toInt_lt v; omega⟩
  have K := law_start (w := w00 L) (h := h00 xs) (nm := meth.name) rfl rfl (by show (L : Int) ≤ 3072; omega) rfl rfl (fun j => iX (xs j.toNat)) ⟨rfl, rfl, rfl, rfl, rfl, rfl, rfl, rfl, rfl⟩
  have hent := lv_entry ([vR (-1)].map (tr (s.heap.size, b, t, (D1, D2), s.heap))) (n := 4) (by rw [lg_len]; exact Nat.le_of_ble_eq_true rfl)
  rw [lg_entry_eq]
  have K1 := K p l e s m #[Value.ref b] below meth c s.heap [] 0 0 600000 7302250 (s.heap.size, b, t, (D1, D2), s.heap) _ ⟨hx, hb, hr, hml, hown, hg, hlk, rfl, hN⟩ (by omega) (by omega) hR (fun q hq => by cases hq) (by
    refine lv_less hent ?_
    exact fun q hq => hq)
  intro T hT X
  obtain ⟨t', a1, o, b1, b2, ⟨r, w', h', o1, o2, o3⟩, Ls, ⟨f1, f2, f3⟩, f4⟩ := K1 T hT X
  refine ⟨t', a1, o, b1, b2, ?_, f1, f2, drop0 f3 f4⟩
  rw [o1, o3]; rfl
set_option maxHeartbeats 4000000 in
theorem lw_walk (l : Launch) (hflags : l.flags = flags0) (b : Addr) (xs : List Int32) : MetFree l x (headSpec (Jvm.Cond.code x code maxLocals ret :: tables_1) room_1) (lw_P b xs) (fun _ _ _ _ _ => True) lw_Q := by
  refine MetFree.of_bodyS (code := code) (maxLocals := maxLocals) (ret := ret) (by decide) ?_ ?_
  · intro args s m h hn
    obtain ⟨meth, c, h1, h2, h3, h4, h5, h6, -, -⟩ := Cond.code_spec hn (atoms_spec (ws := Jvm.Cond.code x code maxLocals ret :: tables_1) h _ List.mem_cons_self)
    exact ⟨meth, c, h1, h2, h3, h4, h5, h6⟩
  · intro p e s m args below meth c s₁ B hml0 hP _
    obtain ⟨rfl, hx, hbd, hgv⟩ := hP
    obtain ⟨scr, harrAt, hlist, hof, hsmall⟩ := hx
    obtain ⟨hcb, hkn, -, -⟩ := State.arrayAt?_spec harrAt
    have hown : s.vm.findClass R_law = some m.cls := findClass_of_methodNamed B.named
    have hts0 : ∀ c ∈ (Jvm.Cond.code x code maxLocals ret :: tables_1), c.before #[Value.ref b] s = true := atoms_spec (ws := Jvm.Cond.code x code maxLocals ret :: tables_1) B.pre
    have hts : ∀ w ∈ lw_tbl, w.before #[Value.ref b] s = true := k2_hts_sels lw_privs (fun w hw => hts0 w (List.mem_cons_of_mem _ hw)) lw_privs_ok
    have hml : c.maxLocals = 4 := B.maxLocals_eq (hts0 _ List.mem_cons_self)
    have X₀ : Stand p l e room_1 s m #[Value.ref b] below meth c s₁ [] 0 0 := Stand.of_body B
    have hh0 : s₁.heap = s.heap := by rw [B.state]; rfl
    have hsz : scr.slots.size = xs.length := by rw [← Array.length_toList, hlist, List.length_map]
    have hval : ∀ j : Nat, j < xs.length → scr.slots[j]? = some (.int (xs.getD j 0)) := fun j hj => by
      rw [← Array.getElem?_toList, hlist]
      simp [hj]
    have hbl : b < s.heap.size := (Array.getElem?_eq_some_iff.mp hcb).1
    have hX : va_X b xs.length (fun j => xs.getD j 0) s s.heap := ⟨scr, hcb, hof, hkn, hsz, hval⟩
    have K : W p l e room_1 s m #[Value.ref b] below meth c s₁.heap [] 0 0 (lw_Z below #[Value.ref b] s) (entryFrame m ([Value.ref b] : List Value).toArray 4) := by
      rw [hh0]
      exact whole_start l hflags hbd ⟨B.exec, B.bytes, B.returns, hml, hown, hts, hX, hbl, B.notSynchronized, hgv⟩
    obtain ⟨t, a1, o, b1, b2, b3⟩ := K s₁ rfl X₀
    exact ⟨t, o, a1, b1, b2, b3⟩
theorem lw_pre_spec {args : Array Value} {s : State} (h : (Jvm.Cond.and given_1 narrow_1).before args s = true) (hr : rest_1_c.before args s = true) : ∃ (b : Addr) (xs : List Int32), lw_P b xs args s := by
  have hs := flat_of_before _ h
  have hq := flat_of_before _ hr
  have hc : (Cond.count 1).before args s = true := hs _ (by decide +kernel)
  have harr : (Cond.arrayOf (.arg 0) .int).before args s = true := hs _ (by decide +kernel)
  have hle : (Cond.le (.length (.arg 0)) (.int 3072)).before args s = true := hs _ (by decide +kernel)
  have hlen : (Cond.isInt (.length (.arg 0))).before args s = true := hq _ (by decide +kernel)
  have hall : (Cond.all (.arg 0) (.isInt (.elem (.arg 0) (.index 0)))).before args s = true := hq _ (by decide +kernel)
  obtain ⟨b, xs, hb, hx⟩ := State.ints_of_pre rfl harr hlen hall
  have hsm : xs.length < 2 ^ 31 := hx.choose_spec.2.2.2
  have hev : (Term.length (.arg 0)).eval args s none [] s = some (.int xs.length.toInt32) := hx.length_eval hb
  have hv := Cond.le_ints hev (show (Term.int 3072).eval args s none [] s = some (.int 3072) from rfl)
  have hd : xs.length.toInt32 ≤ 3072 := by
    simpa [Cond.before, Cond.holds, hv] using hle
  have hN : xs.length ≤ 3072 := (Int32.ofNat_le_ofNat hsm (by decide)).mp (show Int32.ofNat xs.length ≤ Int32.ofNat 3072 from hd)
  exact ⟨b, xs, Cond.one_arg hc (show args[0]? = some (.ref b) from hb), hx, hN, h⟩
theorem lw_comes (l : Launch) (hflags : l.flags = flags0) : Comes l x (Jvm.Cond.code x code maxLocals ret :: tables_1) room_1 (fun tb e args s => Calls_1 tb e args s ∧ rest_1 tb e args s ∧ Pre_1 tb e args s)
    (fun _ _ args s o t => lw_Q args s o t) := by
  intro p e ha hc hk s m args below hf hfit hheap happ hpre
  obtain ⟨b, xs, hP⟩ := lw_pre_spec hpre.2.2 hpre.2.1
  obtain ⟨k, o, h1, h2, h3, hQ⟩ := lw_walk l hflags b xs p e ha hc hk s m args below hf ((Spec.applies_iff_loose hf).mp happ).1 hP trivial
  exact ⟨k, o, h1, h2, h3, hQ⟩
theorem lw_frame {s t : State} {o : Outcome} {args : Array Value} (h : Framed s o t [] 600000 7302250) :
    Framed s o t (fieldLocs frame_1_writes args s ++ arrayLocs frame_1_arrays args s ++ staticLocs frame_1_statics s) 600000 7302250 := h
theorem lw_limb (L : Cond) (hL : ∀ (args : Array Value) (s t : State), L.after args s (.returned (some (.int 1))) t = true) :
    ArmFor flags0 classFile x code maxLocals ret World_1 tables_1 room_1 Calls_1 rest_1 Pre_1
      (fun tb e a s o t => postC L tb e a s o t ∧ Framed s o t (fieldLocs frame_1_writes a s ++ arrayLocs frame_1_arrays a s ++ staticLocs frame_1_statics s) 600000 7302250) := by
  intro l hflags _ _ p e ha hc hk s m args below hf hfit hheap happ hpre
  obtain ⟨k, o, h1, h2, h3, rfl, hF⟩ := lw_comes l hflags p e ha hc hk s m args below hf hfit hheap happ hpre
  exact ⟨k, _, h1, h2, h3, hL args s _, lw_frame hF⟩
theorem i_vc : Claimed_1_1 ∧ Claimed_1_2 := ⟨lw_limb limb_1_1 (fun args s t => by simp [limb_1_1, Cond.after, Cond.holds, Cond.value]), lw_limb limb_1_2 (fun args s t => Cond.after_iff.mpr (by
  first | (rw [show limb_1_2 = Cond.eq .result (.int 1) from rfl, Cond.eq_ints (x := 1) (y := 1) rfl rfl]; simp; done) | (simp [limb_1_2, Cond.value, Term.eval]; done)))⟩
