/-- a new cell -/
def wNew (w : WS) (kd n : Nat) : WS := (w.1 + 1, fun a => if a = (w.1 : Int) + 1 then (kd, n) else w.2.1 a, fun a i => if a = (w.1 : Int) + 1 then 0 else w.2.2 a i)
def hNew (w : WS) (h : AH) : AH := fun a i => if a = (w.1 : Int) + 1 then 0 else h a i
/-- a final reference is laid -/
def wFin (w : WS) (a i v : Int) : WS := (w.1, w.2.1, st w.2.2 a i v)
theorem cellAt.kept2 {s : State} {E : EV} {w w1 : WS} {h h1 : AH} {H H1 : Heap} {a : Int} (C : cellAt s E w h H a) (hq : wt w a ≠ 0 → H1[ad E a]? = H[ad E a]?) (hh : h1 a = h a) (hw : w1.2.1 a = w.2.1 a) (hf : w1.2.2 a = w.2.2 a) : cellAt s E w1 h1 H1 a := by
  have e1 : wt w1 a = wt w a := by unfold wt; rw [hw]
  have e2 : ∀ ty f, arrAt s E w1 H1 a ty f = arrAt s E w H1 a ty f := fun ty f => by unfold arrAt wn; rw [hw]
  have e3 : ∀ f, arrQ s E w1 H1 a f = arrQ s E w H1 a f := fun f => by unfold arrQ wn; rw [hw]
  have C1 := C.kept (h1 := h1) (H1 := H1) hq hh
  obtain ⟨c1, c2, c3, c4, d1, d2, c5, c6⟩ := C1
  refine ⟨fun e => ?_, fun e => ?_, fun e => ?_, fun e => ?_, fun e => ?_, fun e => ?_, fun e => ?_, fun k e => ?_⟩
  · rw [e2]; exact c1 (e1 ▸ e)
  · rw [e2]; exact c2 (e1 ▸ e)
  · rw [e2]; exact c3 (e1 ▸ e)
  · rw [e2]; exact c4 (e1 ▸ e)
  · rw [e2]; exact d1 (e1 ▸ e)
  · rw [e3]; exact d2 (e1 ▸ e)
  · rw [e2]; exact c5 (e1 ▸ e)
  · obtain ⟨q, q1, q2⟩ := c6 k (e1 ▸ e)
    refine ⟨q, q1, q2.to fun i _ => ?_⟩
    unfold fv wf
    rw [hf]
theorem wNew_t (w : WS) (kd n : Nat) : wt (wNew w kd n) ((w.1 : Int) + 1) = kd := by simp [wt, wNew]
theorem wNew_n (w : WS) (kd n : Nat) : wn (wNew w kd n) ((w.1 : Int) + 1) = n := by simp [wn, wNew]
theorem Rep.new {s : State} {E : EV} {w : WS} {h : AH} {H H1 : Heap} (R : Rep s E w h H) {kd n : Nat} (h6 : kd ≠ 6) (h7 : kd ≠ 7) (hn : n ≤ 2147483647) (hz : H1.size = H.size + 1) (ho : ∀ q : Nat, q < H.size → H1[q]? = H[q]?) (hc : cellAt s E (wNew w kd n) (hNew w h) H1 ((w.1 : Int) + 1)) : Rep s E (wNew w kd n) (hNew w h) H1 := by
  have hB : H.size = eB E + w.1 := R.1
  refine ⟨?_, fun q hq => ?_, fun a ha => ?_, fun a => ?_, R.2.2.2.2⟩
  · rw [hz, hB]; show _ = eB E + (w.1 + 1); omega
  · rw [ho q (by omega)]; exact R.2.1 q hq
  · by_cases e : a = (w.1 : Int) + 1
    · subst e
      rw [wNew_n]
      refine ⟨Or.inr (Or.inr ⟨by omega, ?_, ?_, ?_⟩), hn⟩
      · show (w.1 : Int) + 1 ≤ ((w.1 + 1 : Nat) : Int); omega
      · rw [wNew_t]; exact h6
      · rw [wNew_t]; exact h7
    · have e1 : wt (wNew w kd n) a = wt w a := by simp [wt, wNew, e]
      have e2 : wn (wNew w kd n) a = wn w a := by simp [wn, wNew, e]
      rw [e1] at ha
      obtain ⟨q1, q2⟩ := R.2.2.1 a ha
      rw [e1, e2]
      refine ⟨?_, q2⟩
      rcases q1 with q | q | q
      · exact Or.inl q
      · exact Or.inr (Or.inl q)
      · refine Or.inr (Or.inr ⟨q.1, ?_, q.2.2⟩)
        have := q.2.1
        show a ≤ ((w.1 + 1 : Nat) : Int)
        omega
  · by_cases e : a = (w.1 : Int) + 1
    · subst e; exact hc
    · refine (R.2.2.2.1 a).kept2 (fun hw => ho _ ?_) (by funext i; simp [hNew, e]) (by simp [wNew, e]) (by funext i; simp [wNew, e])
      obtain ⟨-, hs, hq, -⟩ := R.2.2.2.2
      rcases (R.2.2.1 a hw).1 with ⟨rfl, -⟩ | ⟨rfl, -⟩ | q
      · unfold ad; rw [if_pos rfl]; omega
      · unfold ad; rw [if_neg (by omega), if_pos rfl]; omega
      · rw [ad_own q.1]; omega
theorem ad_new {s : State} {E : EV} {w : WS} {h : AH} {H : Heap} (R : Rep s E w h H) : ad E ((w.1 : Int) + 1) = H.size := by
  rw [ad_own (by omega), R.1]; omega
theorem fvv_0 (E : EV) (t : FieldType) (b : Bool) (h1 : t ≠ .float) (h2 : t ≠ .double) : fvv E t b 0 0 = defaultValue t := by
  cases t <;> first | rfl | (cases b <;> rfl) | exact absurd rfl h1 | exact absurd rfl h2
section SD
variable {M : MI} {pc pc' : Nat} {ls ls' : List (Option AV)} {sk : List AV} {w : WS} {h : AH} {k n : Nat} {Q : Option AV → WS → AH → Prop}
theorem s_new {kc N idx : Nat} {Cn : String} (hd : decode (mC M) pc = .ok (.new idx, 3)) (hc : clsI kc Cn N) (hl : Cond.classLink (mO M) idx Cn ∈ lw_g) (hins : Cond.instantiable Cn N ∈ lw_g) (hini : Cond.initialized Cn ∈ lw_g) (hfd : ∀ i, i < N → tyC kc i ≠ .float ∧ tyC kc i ≠ .double) (hp : pc + 3 = pc') (K : XA M pc' ls (vR ((w.1 : Int) + 1) :: sk) (wNew w (10 + kc) 0) (hNew w h) k n Q) : XA M pc ls sk w h (k + 1) (n + N) Q := by
  intro p l e s m args below meth c H locs cells slots mc ms E lsM C hk hn hR hL hls
  subst hp
  have hKn := hR.2.2.2.2.1.1 kc _ hc.1
  refine W.newcK C.1 C.2.1 C.2.2.2.2.1 (C.2.2.2.2.2.1 _ hl) (C.2.2.2.2.2.1 _ hins) (C.2.2.2.2.2.1 _ hini) rfl hd (by show cells + 1 ≤ mc; omega) (by show slots + N ≤ ms; omega) hKn.2.1 rfl fun H1 kC hkC e1 z1 o1 => ?_
  have er : tr E (vR ((w.1 : Int) + 1)) = .ref H.size := by rw [← ad_new hR]; exact rf_own (by omega)
  have hR1 : Rep s E (wNew w (10 + kc) 0) (hNew w h) H1 := by
    refine hR.new (by omega) (by omega) (by omega) z1 o1 ⟨fun z => ?_, fun z => ?_, fun z => ?_, fun z => ?_, fun z => ?_, fun z => ?_, fun z => ?_, fun k1 z => ?_⟩
    · rw [wNew_t] at z; omega
    · rw [wNew_t] at z; omega
    · rw [wNew_t] at z; omega
    · rw [wNew_t] at z; omega
    · rw [wNew_t] at z; omega
    · rw [wNew_t] at z; omega
    · rw [wNew_t] at z; omega
    · rw [wNew_t] at z
      have : k1 = kc := by omega
      subst this
      rw [ad_new hR]
      refine ⟨_, hc.1, (u_born (tyC k1) C.2.2.2.2.2.1 hc.2.1 hKn hkC e1 hc.2.2.1).to fun i hi => ?_⟩
      have h0 : hNew w h ((w.1 : Int) + 1) i = 0 := by simp [hNew]
      have h1 : wf (wNew w (10 + k1) 0) ((w.1 : Int) + 1) i = 0 := by simp [wf, wNew]
      unfold fv
      rw [h0, h1, fvv_0 E _ _ (hfd i hi).1 (hfd i hi).2]
  have K1 := K p l e s m args below meth c H1 locs (cells + 1) (slots + N) mc ms E lsM C (by omega) (by omega) hR1 hL hls
  rw [List.map_cons, er] at K1
  exact K1
theorem s_newa_int {x : Int} (hd : decode (mC M) pc = .ok (.newarray .int, 2)) (hl : Cond.arrayClass .int ∈ lw_g) (h0 : 0 ≤ x) (h1 : x ≤ 1000000) (hx : x.toNat ≤ n) (hp : pc + 2 = pc') (K : XA M pc' ls (vR ((w.1 : Int) + 1) :: sk) (wNew w 1 x.toNat) (hNew w h) k (n - x.toNat) Q) : XA M pc ls (vI x :: sk) w h (k + 1) n Q := by
  intro p l e s m args below meth c H locs cells slots mc ms E lsM C hk hn hR hL hls
  subst hp
  have hr : inR x := ⟨by omega, by omega⟩
  refine va_newaK (atype := .int) C.1 C.2.1 (C.2.2.2.2.2.1 _ hl) rfl hd (N := x.toNat) rfl (by rw [show (0 : Int32) = Int32.ofInt 0 from rfl, i32_lt hr (by decide)]; omega) (i32_ix hr) (by show x.toNat * _ ≤ _; simp only [newarray.typeOf, componentBytes]; omega) (by show cells + 1 ≤ mc; omega) (by show slots + x.toNat ≤ ms; omega) rfl fun H1 cA e1 z1 o1 hAr hNm => ?_
  have er : tr E (vR ((w.1 : Int) + 1)) = .ref H.size := by rw [← ad_new hR]; exact rf_own (by omega)
  have key : arrAt s E (wNew w 1 x.toNat) H1 ((w.1 : Int) + 1) .int (fun j => .int (Int32.ofInt (hNew w h ((w.1 : Int) + 1) j))) := by
    refine ⟨_, by rw [ad_new hR]; exact e1, hAr _ _, (fun q => by cases q), by rw [arrV_size, wNew_n], fun j hj => ?_⟩
    rw [wNew_n] at hj
    rw [arrV_read _ _ hj]
    have h0 : hNew w h ((w.1 : Int) + 1) j = 0 := by simp [hNew]
    dsimp only; rw [h0]
    rfl
  have hR1 : Rep s E (wNew w 1 x.toNat) (hNew w h) H1 := by
    refine hR.new (by omega) (by omega) (by omega) z1 o1 ⟨fun z => ?_, fun z => ?_, fun z => ?_, fun z => ?_, fun z => ?_, fun z => ?_, fun z => ?_, fun k1 z => ?_⟩
    · exact key
    · rw [wNew_t] at z; omega
    · rw [wNew_t] at z; omega
    · rw [wNew_t] at z; omega
    · rw [wNew_t] at z; omega
    · rw [wNew_t] at z; omega
    · rw [wNew_t] at z; omega
    · rw [wNew_t] at z; omega
  have K1 := K p l e s m args below meth c H1 locs (cells + 1) (slots + x.toNat) mc ms E lsM C (by omega) (by omega) hR1 hL hls
  rw [List.map_cons, er] at K1
  exact K1
theorem s_newa_byte {x : Int} (hd : decode (mC M) pc = .ok (.newarray .byte, 2)) (hl : Cond.arrayClass .byte ∈ lw_g) (h0 : 0 ≤ x) (h1 : x ≤ 1000000) (hx : x.toNat ≤ n) (hp : pc + 2 = pc') (K : XA M pc' ls (vR ((w.1 : Int) + 1) :: sk) (wNew w 2 x.toNat) (hNew w h) k (n - x.toNat) Q) : XA M pc ls (vI x :: sk) w h (k + 1) n Q := by
  intro p l e s m args below meth c H locs cells slots mc ms E lsM C hk hn hR hL hls
  subst hp
  have hr : inR x := ⟨by omega, by omega⟩
  refine va_newaK (atype := .byte) C.1 C.2.1 (C.2.2.2.2.2.1 _ hl) rfl hd (N := x.toNat) rfl (by rw [show (0 : Int32) = Int32.ofInt 0 from rfl, i32_lt hr (by decide)]; omega) (i32_ix hr) (by show x.toNat * _ ≤ _; simp only [newarray.typeOf, componentBytes]; omega) (by show cells + 1 ≤ mc; omega) (by show slots + x.toNat ≤ ms; omega) rfl fun H1 cA e1 z1 o1 hAr hNm => ?_
  have er : tr E (vR ((w.1 : Int) + 1)) = .ref H.size := by rw [← ad_new hR]; exact rf_own (by omega)
  have key : arrAt s E (wNew w 2 x.toNat) H1 ((w.1 : Int) + 1) .byte (fun j => .int (Int32.ofInt (hNew w h ((w.1 : Int) + 1) j))) := by
    refine ⟨_, by rw [ad_new hR]; exact e1, hAr _ _, (fun q => by cases q), by rw [arrV_size, wNew_n], fun j hj => ?_⟩
    rw [wNew_n] at hj
    rw [arrV_read _ _ hj]
    have h0 : hNew w h ((w.1 : Int) + 1) j = 0 := by simp [hNew]
    dsimp only; rw [h0]
    rfl
  have hR1 : Rep s E (wNew w 2 x.toNat) (hNew w h) H1 := by
    refine hR.new (by omega) (by omega) (by omega) z1 o1 ⟨fun z => ?_, fun z => ?_, fun z => ?_, fun z => ?_, fun z => ?_, fun z => ?_, fun z => ?_, fun k1 z => ?_⟩
    · rw [wNew_t] at z; omega
    · exact key
    · rw [wNew_t] at z; omega
    · rw [wNew_t] at z; omega
    · rw [wNew_t] at z; omega
    · rw [wNew_t] at z; omega
    · rw [wNew_t] at z; omega
    · rw [wNew_t] at z; omega
  have K1 := K p l e s m args below meth c H1 locs (cells + 1) (slots + x.toNat) mc ms E lsM C (by omega) (by omega) hR1 hL hls
  rw [List.map_cons, er] at K1
  exact K1
theorem s_newa_bool {x : Int} (hd : decode (mC M) pc = .ok (.newarray .boolean, 2)) (hl : Cond.arrayClass .boolean ∈ lw_g) (h0 : 0 ≤ x) (h1 : x ≤ 1000000) (hx : x.toNat ≤ n) (hp : pc + 2 = pc') (K : XA M pc' ls (vR ((w.1 : Int) + 1) :: sk) (wNew w 3 x.toNat) (hNew w h) k (n - x.toNat) Q) : XA M pc ls (vI x :: sk) w h (k + 1) n Q := by
  intro p l e s m args below meth c H locs cells slots mc ms E lsM C hk hn hR hL hls
  subst hp
  have hr : inR x := ⟨by omega, by omega⟩
  refine va_newaK (atype := .boolean) C.1 C.2.1 (C.2.2.2.2.2.1 _ hl) rfl hd (N := x.toNat) rfl (by rw [show (0 : Int32) = Int32.ofInt 0 from rfl, i32_lt hr (by decide)]; omega) (i32_ix hr) (by show x.toNat * _ ≤ _; simp only [newarray.typeOf, componentBytes]; omega) (by show cells + 1 ≤ mc; omega) (by show slots + x.toNat ≤ ms; omega) rfl fun H1 cA e1 z1 o1 hAr hNm => ?_
  have er : tr E (vR ((w.1 : Int) + 1)) = .ref H.size := by rw [← ad_new hR]; exact rf_own (by omega)
  have key : arrAt s E (wNew w 3 x.toNat) H1 ((w.1 : Int) + 1) .boolean (fun j => .int (Int32.ofInt (hNew w h ((w.1 : Int) + 1) j))) := by
    refine ⟨_, by rw [ad_new hR]; exact e1, hAr _ _, (fun q => by cases q), by rw [arrV_size, wNew_n], fun j hj => ?_⟩
    rw [wNew_n] at hj
    rw [arrV_read _ _ hj]
    have h0 : hNew w h ((w.1 : Int) + 1) j = 0 := by simp [hNew]
    dsimp only; rw [h0]
    rfl
  have hR1 : Rep s E (wNew w 3 x.toNat) (hNew w h) H1 := by
    refine hR.new (by omega) (by omega) (by omega) z1 o1 ⟨fun z => ?_, fun z => ?_, fun z => ?_, fun z => ?_, fun z => ?_, fun z => ?_, fun z => ?_, fun k1 z => ?_⟩
    · rw [wNew_t] at z; omega
    · rw [wNew_t] at z; omega
    · exact key
    · rw [wNew_t] at z; omega
    · rw [wNew_t] at z; omega
    · rw [wNew_t] at z; omega
    · rw [wNew_t] at z; omega
    · rw [wNew_t] at z; omega
  have K1 := K p l e s m args below meth c H1 locs (cells + 1) (slots + x.toNat) mc ms E lsM C (by omega) (by omega) hR1 hL hls
  rw [List.map_cons, er] at K1
  exact K1
theorem s_newa_long {x : Int} (hd : decode (mC M) pc = .ok (.newarray .long, 2)) (hl : Cond.arrayClass .long ∈ lw_g) (h0 : 0 ≤ x) (h1 : x ≤ 1000000) (hx : x.toNat ≤ n) (hp : pc + 2 = pc') (K : XA M pc' ls (vR ((w.1 : Int) + 1) :: sk) (wNew w 4 x.toNat) (hNew w h) k (n - x.toNat) Q) : XA M pc ls (vI x :: sk) w h (k + 1) n Q := by
  intro p l e s m args below meth c H locs cells slots mc ms E lsM C hk hn hR hL hls
  subst hp
  have hr : inR x := ⟨by omega, by omega⟩
  refine va_newaK (atype := .long) C.1 C.2.1 (C.2.2.2.2.2.1 _ hl) rfl hd (N := x.toNat) rfl (by rw [show (0 : Int32) = Int32.ofInt 0 from rfl, i32_lt hr (by decide)]; omega) (i32_ix hr) (by show x.toNat * _ ≤ _; simp only [newarray.typeOf, componentBytes]; omega) (by show cells + 1 ≤ mc; omega) (by show slots + x.toNat ≤ ms; omega) rfl fun H1 cA e1 z1 o1 hAr hNm => ?_
  have er : tr E (vR ((w.1 : Int) + 1)) = .ref H.size := by rw [← ad_new hR]; exact rf_own (by omega)
  have key : arrAt s E (wNew w 4 x.toNat) H1 ((w.1 : Int) + 1) .long (fun j => .long (Int64.ofInt (hNew w h ((w.1 : Int) + 1) j))) := by
    refine ⟨_, by rw [ad_new hR]; exact e1, hAr _ _, (fun q => by cases q), by rw [arrV_size, wNew_n], fun j hj => ?_⟩
    rw [wNew_n] at hj
    rw [arrV_read _ _ hj]
    have h0 : hNew w h ((w.1 : Int) + 1) j = 0 := by simp [hNew]
    dsimp only; rw [h0]
    rfl
  have hR1 : Rep s E (wNew w 4 x.toNat) (hNew w h) H1 := by
    refine hR.new (by omega) (by omega) (by omega) z1 o1 ⟨fun z => ?_, fun z => ?_, fun z => ?_, fun z => ?_, fun z => ?_, fun z => ?_, fun z => ?_, fun k1 z => ?_⟩
    · rw [wNew_t] at z; omega
    · rw [wNew_t] at z; omega
    · rw [wNew_t] at z; omega
    · exact key
    · rw [wNew_t] at z; omega
    · rw [wNew_t] at z; omega
    · rw [wNew_t] at z; omega
    · rw [wNew_t] at z; omega
  have K1 := K p l e s m args below meth c H1 locs (cells + 1) (slots + x.toNat) mc ms E lsM C (by omega) (by omega) hR1 hL hls
  rw [List.map_cons, er] at K1
  exact K1
theorem s_anew {x : Int} {idx : Nat} (hd : decode (mC M) pc = .ok (.anewarray idx, 3)) (hl : Cond.classLink (mO M) idx RX7 ∈ lw_g) (h0 : 0 ≤ x) (h1 : x ≤ 1000000) (hx : x.toNat ≤ n) (hp : pc + 3 = pc') (K : XA M pc' ls (vR ((w.1 : Int) + 1) :: sk) (wNew w 5 x.toNat) (hNew w h) k (n - x.toNat) Q) : XA M pc ls (vI x :: sk) w h (k + 1) n Q := by
  intro p l e s m args below meth c H locs cells slots mc ms E lsM C hk hn hR hL hls
  subst hp
  have hr : inR x := ⟨by omega, by omega⟩
  have ix := i32_ix hr
  refine W.anew C.1 C.2.1 C.2.2.2.2.1 (C.2.2.2.2.2.1 _ hl) (va_AO.use C.2.2.2.2.2.2.2.2.2) rfl hd rfl (by rw [show (0 : Int32) = Int32.ofInt 0 from rfl, i32_lt hr (by decide)]; omega) (by rw [ix]; omega) (by show cells + 1 ≤ mc; omega) (by rw [ix]; show slots + x.toNat ≤ ms; omega) fun cA kA comp f1 f2 f3 f4 => ?_
  rw [ix]
  have er : tr E (vR ((w.1 : Int) + 1)) = .ref H.size := by rw [← ad_new hR]; exact rf_own (by omega)
  have e1 : (H.push { cls := cA, slots := Array.replicate x.toNat Value.null, vm := .none })[H.size]? = some { cls := cA, slots := Array.replicate x.toNat Value.null, vm := .none } := by simp
  have key : arrAt s E (wNew w 5 x.toNat) (H.push { cls := cA, slots := Array.replicate x.toNat Value.null, vm := .none }) ((w.1 : Int) + 1) (.object RX7) (fun j => rf E (hNew w h ((w.1 : Int) + 1) j)) := by
    refine ⟨_, by rw [ad_new hR]; exact e1, ⟨(fun q z => by cases z), kA, f2, comp, f3⟩, (fun q => by cases q), by simp [wNew_n], fun j hj => ?_⟩
    rw [wNew_n] at hj
    have h0 : hNew w h ((w.1 : Int) + 1) j = 0 := by simp [hNew]
    dsimp only; rw [h0]
    simp [hj, rf]
  have hR1 : Rep s E (wNew w 5 x.toNat) (hNew w h) (H.push { cls := cA, slots := Array.replicate x.toNat Value.null, vm := .none }) := by
    refine hR.new (by omega) (by omega) (by omega) (by simp) (fun q hq => by rw [Array.getElem?_push, if_neg (Nat.ne_of_lt hq)]) ⟨fun z => ?_, fun z => ?_, fun z => ?_, fun z => ?_, fun z => ?_, fun z => ?_, fun z => ?_, fun k1 z => ?_⟩
    · rw [wNew_t] at z; omega
    · rw [wNew_t] at z; omega
    · rw [wNew_t] at z; omega
    · rw [wNew_t] at z; omega
    · rw [wNew_t] at z; omega
    · rw [wNew_t] at z; omega
    · exact ⟨key, _, kA, comp, by rw [ad_new hR]; exact e1, f2, f3, f4⟩
    · rw [wNew_t] at z; omega
  have K1 := K p l e s m args below meth c _ locs (cells + 1) (slots + x.toNat) mc ms E lsM C (by omega) (by omega) hR1 hL hls
  rw [List.map_cons, er] at K1
  exact K1
theorem s_aast {a i x : Int} (hd : decode (mC M) pc = .ok (.aastore, 1)) (ha : wt w a = 5) (h0 : 0 ≤ i) (h1 : i < wl w a) (hx : wt w x = 17) (hp : pc + 1 = pc') (K : XA M pc' ls sk w (st h a i x) k n Q) : XA M pc ls (vR x :: vI i :: vR a :: sk) w h k n Q := by
  intro p l e s m args below meth c H locs cells slots mc ms E lsM C hk hn hR hL hls
  subst hp
  obtain ⟨⟨cell, c1, c2, c3, c4, c5⟩, cell2, kA, comp, d1, d2, d3, d4⟩ := (hR.2.2.2.1 a).2.2.2.2.2.2.1 ha
  have ec : cell2 = cell := Option.some.inj (d1.symm.trans c1)
  subst ec
  obtain ⟨q, hq, cv, q1, q2, q3, q4⟩ := (hR.2.2.2.1 x).2.2.2.2.2.2.2 7 hx
  have hr := hR.len (by omega) h0 h1
  have hi : i.toNat < wn w a := by unfold wl at h1; omega
  have er : tr E (vR a) = .ref (ad E a) := rf_own (hR.id (by omega))
  have ex : tr E (vR x) = .ref (ad E x) := rf_own (hR.id (by omega))
  have ho : 1 ≤ a := hR.own (by omega) (by omega) (by omega)
  have hKn := (hR.2.2.2.2.1.1 7 _ (show vwCl[7]? = some (RX7, TX7, 2) from rfl)).2
  have hcomp : comp = (eD E).1 7 := Option.some.inj (d4.symm.trans hKn.1)
  obtain ⟨hfc, kC, hkC, hkind⟩ := hKn
  rw [List.map_cons, List.map_cons, List.map_cons, er, ex]
  refine W.aast C.1 C.2.1 c1 c2.1 c3 d2 d3 rfl (kcomp := kC) (by rw [hcomp]; exact hkC) ⟨by rw [show (0 : Int32) = Int32.ofInt 0 from rfl, i32_lt hr (by decide)]; omega, by rw [i32_ix hr, c4]; exact hi⟩ q1 (by rw [q3]; intro q z; cases z) (kv := kC) (by rw [q2]; exact hkC) (by rw [q2, hcomp]; exact Vm.assignable_self _ _) rfl rfl hd fun H' e1 e2 e3 => ?_
  rw [i32_ix hr] at e1
  refine K p l e s m args below meth c H' _ cells slots mc ms E lsM C hk hn (hR.set ho e2 e3 ?_ (fun b hb => st_row h _ _ hb)) ?_ hls
  · have key : arrAt s E w H' a (.object RX7) (fun j => rf E (st h a i x a j)) := by
      refine ⟨_, e1, ⟨c2.1, c2.2⟩, c3, by rw [← c4]; simp [Cell.setSlot], fun j hj => ?_⟩
      show (cell2.setSlot i.toNat _).slots[j]? = _
      unfold Cell.setSlot
      rw [Array.getElem?_setIfInBounds]
      by_cases hji : i.toNat = j
      · rw [if_pos hji, if_pos (by rw [c4]; omega)]
        have : (j : Int) = i := by omega
        dsimp only; rw [this, st_same]; exact congrArg some ex.symm
      · rw [if_neg hji, c5 j hj]; dsimp only; rw [st_slot h a a x (show (j : Int) ≠ i by omega)]
    exact ⟨fun z => by omega, fun z => by omega, fun z => by omega, fun z => by omega, fun z => by omega, fun z => by omega, fun z => ⟨key, _, kA, comp, e1, d2, d3, d4⟩, fun k1 z => by omega⟩
  · intro z hz
    rcases List.mem_append.mp hz with z1 | z1
    · exact hL z z1
    · rw [List.mem_singleton.mp z1]
      show eB E ≤ ad E a
      rw [ad_own ho]; omega
theorem s_putF {kc i N idx : Nat} {a x : Int} (hd : decode (mC M) pc = .ok (.putfield idx, 3)) (hc : clsI kc (mO M) N) (hi : i < N) (hl : Cond.fieldLink (mO M) idx (TC kc i).1 (TC kc i).2.1 (TC kc i).2.2.1 ∈ lw_g) (hf : (TC kc i).2.2.2 = true) (hin : (mY M).name = "<init>") (hdecl : (TC kc i).1 = mO M) (ha : wt w a = 10 + kc) (hn1 : ∀ E, narrow (tyC kc i) (tr E (vR x)) = tr E (vR x) ∧ fits (tyC kc i) (tr E (vR x)) = true) (hv : ∀ E y, fvv E (tyC kc i) true y x = tr E (vR x)) (hp : pc + 3 = pc') (K : XA M pc' ls sk (wFin w a i x) h k n Q) : XA M pc ls (vR x :: vR a :: sk) w h k n Q := by
  intro p l e s m args below meth c H locs cells slots mc ms E lsM C hk hn hR hL hls
  subst hp
  obtain ⟨q, hq, cell, q1, q2, q3, q4⟩ := (hR.2.2.2.1 a).2.2.2.2.2.2.2 kc ha
  have hq2 : q = (mO M, TC kc, N) := Option.some.inj (hq.symm.trans hc.1)
  subst hq2
  have er : tr E (vR a) = .ref (ad E a) := rf_own (hR.id (by omega))
  rw [List.map_cons, List.map_cons, er]
  have hK := hR.2.2.2.2.1
  have hap := va_apart (own := mO M) C.2.2.2.2.2.1 hc.2.1 (tyC kc) hc.2.2.1 hc.2.2.2 hK hc.1
  obtain ⟨hS, hfc, kC, hkC, hkind⟩ := hK.1 kc _ hc.1
  obtain ⟨cf, kf, fi, f, hfi, hsl⟩ := hS i hi
  have hlay := C.2.2.2.2.2.1 _ (hc.2.1 _ (u_in_lay hi))
  unfold u_lay at hlay
  rw [if_pos hf] at hlay
  have hst := (u_facts hfc hkC (u_lays C.2.2.2.2.2.1 hc.2.1 hi) hfi).1
  have hcf : m.cls = cf := by
    obtain ⟨_, _, c', _, _, _, -, -, hf', -, -, -, hown2, -⟩ := Cond.laysFinal_spec hlay
    have e1 : c' = cf := by have := hfi.symm.trans hf'; simp at this; exact this.1.symm
    rw [hdecl] at hown2
    rw [← e1]; exact Option.some.inj (C.2.2.2.2.1.symm.trans hown2)
  have h6 := u_fits hfc hkC hkind (Or.inr hlay) hfi (hc.2.2.1 i hi) (hn1 E).1 (hn1 E).2
  refine W.putFinK C.1 C.2.1 C.2.2.2.2.1 (C.2.2.2.2.2.1 _ hl) hfi hst hcf (C.2.2.2.2.2.2.2.1.trans hin) (by rw [q2]; exact h6) q1 q3 (by rw [hsl]; exact k2_hasslot (q4 i hi)) rfl rfl hd fun H' e1 e2 e3 => ?_
  rw [hsl] at e1
  have ho : 1 ≤ a := hR.own (by omega) (by omega) (by omega)
  have hR1 : Rep s E (wFin w a i x) h H' := by
    refine ⟨e2.trans hR.1, fun q hq => ?_, hR.2.2.1, fun b => ?_, hR.2.2.2.2⟩
    · rw [e3 q (by rw [ad_own ho]; exact Nat.ne_of_lt (Nat.lt_of_lt_of_le hq (Nat.le_add_right _ _)))]; exact hR.2.1 q hq
    · by_cases eb : b = a
      · subst eb
        have et : ∀ z, wt (wFin w b i x) z = wt w z := fun z => rfl
        refine ⟨fun z => by rw [et] at z; omega, fun z => by rw [et] at z; omega, fun z => by rw [et] at z; omega, fun z => by rw [et] at z; omega, fun z => by rw [et] at z; omega, fun z => by rw [et] at z; omega, fun z => by rw [et] at z; omega, fun k1 z => ?_⟩
        have hk1 : k1 = kc := by rw [et] at z; omega
        subst hk1
        refine ⟨_, hq, t_OB.to ⟨_, e1, q2, q3, t_set q4 hap hi (tr E (vR x))⟩ fun j hj => ?_⟩
        unfold updV
        by_cases hji : j = i
        · subst hji
          rw [if_pos rfl]
          unfold fv
          have : wf (wFin w b j x) b j = x := st_same _ _ _ _
          rw [this, hf, hv]
        · rw [if_neg hji]
          unfold fv
          have : wf (wFin w b i x) b j = wf w b j := st_slot _ _ _ _ (show (j : Int) ≠ (i : Int) by omega)
          rw [this]
      · exact (hR.2.2.2.1 b).kept2 (fun hw => e3 _ (hR.apart ho hw eb)) rfl rfl (st_row _ _ _ eb)
  refine K p l e s m args below meth c H' _ cells slots mc ms E lsM C hk hn hR1 ?_ hls
  intro z hz
  rcases List.mem_append.mp hz with z1 | z1
  · exact hL z z1
  · rw [List.mem_singleton.mp z1]
    show eB E ≤ ad E a
    rw [ad_own ho]; omega
theorem s_obj {a : Int} {idx : Nat} (hd : decode (mC M) pc = .ok (.invokespecial idx, 3)) (hl : Cond.methodLink (mO M) idx Lib.objectInit ∈ lw_g) (hi : Cond.instanceMethod Lib.objectInit ∈ lw_g) (hcode : Cond.code Lib.objectInit ⟨#[0xb1]⟩ 1 none ∈ lw_g) (ha : a ≠ 0) (hrk : 1 ≤ mK M) (hs : (sk.map acat).sum ≤ 8) (hp : pc + 3 = pc') (K : XA M pc' ls sk w h k n Q) : XA M pc ls (vR a :: sk) w h k n Q := by
  intro p l e s m args below meth c H locs cells slots mc ms E lsM C hk hn hR hL hls
  subst hp
  have er : tr E (vR a) = .ref (ad E a) := rf_own ha
  rw [List.map_cons, er]
  have hc8 := sk_cat (E := E) hs; have hrl := rl_ge hrk
  exact W.objInit C.1 C.2.1 C.2.2.2.2.1 (C.2.2.2.2.2.1 _ hl) (C.2.2.2.2.2.1 _ hi) (C.2.2.2.2.2.1 _ hcode) rfl (hls.1.trans C.2.2.2.1.symm) rfl hd hrk (by show 2 * 0 + _ + 12 ≤ rl (mK M); omega) (K p l e s m args below meth c H locs cells slots mc ms E lsM C hk hn hR hL hls)
theorem s_max {x y : Int} {idx : Nat} (hd : decode (mC M) pc = .ok (.invokestatic idx, 3)) (hl : Cond.methodLink (mO M) idx Lib.Math.max.name ∈ lw_g) (hi : Cond.static Lib.Math.max.name ∈ lw_g) (hini : Cond.initialized "java/lang/Math" ∈ lw_g) (hcode : Cond.code Lib.Math.max.name Lib.Math.max.code 2 (some .int) ∈ lw_g) (hrk : 1 ≤ mK M) (hs : (sk.map acat).sum ≤ 8) (hx : inR x) (hy : inR y) (hp : pc + 3 = pc') (K : XA M pc' ls (vI (max x y) :: sk) w h k n Q) : XA M pc ls (vI y :: vI x :: sk) w h k n Q := by
  intro p l e s m args below meth c H locs cells slots mc ms E lsM C hk hn hR hL hls
  subst hp
  have hc8 := sk_cat (E := E) hs; have hrl := rl_ge hrk
  have K1 := K p l e s m args below meth c H locs cells slots mc ms E lsM C hk hn hR hL hls
  have ev : tr E (vI (max x y)) = .int (if Int32.ofInt x < Int32.ofInt y then Int32.ofInt y else Int32.ofInt x) := by
    show Value.int (Int32.ofInt (max x y)) = _
    simp only [i32_lt hx hy]
    split
    · rw [show max x y = y by omega]
    · rw [show max x y = x by omega]
  rw [List.map_cons, ev] at K1
  exact va_mmax C.1 C.2.1 (C.2.2.2.1.trans hls.1.symm) C.2.2.2.2.1 (C.2.2.2.2.2.1 _ hl) (C.2.2.2.2.2.1 _ hi) (C.2.2.2.2.2.1 _ hini) (C.2.2.2.2.2.1 _ hcode) hrk (by show _ + 13 ≤ rl (mK M); omega) (by show cells ≤ mc; omega) (by show slots ≤ ms; omega) hd K1
theorem s_min {x y : Int} {idx : Nat} (hd : decode (mC M) pc = .ok (.invokestatic idx, 3)) (hl : Cond.methodLink (mO M) idx Lib.Math.min.name ∈ lw_g) (hi : Cond.static Lib.Math.min.name ∈ lw_g) (hini : Cond.initialized "java/lang/Math" ∈ lw_g) (hcode : Cond.code Lib.Math.min.name Lib.Math.min.code 2 (some .int) ∈ lw_g) (hrk : 1 ≤ mK M) (hs : (sk.map acat).sum ≤ 8) (hx : inR x) (hy : inR y) (hp : pc + 3 = pc') (K : XA M pc' ls (vI (min x y) :: sk) w h k n Q) : XA M pc ls (vI y :: vI x :: sk) w h k n Q := by
  intro p l e s m args below meth c H locs cells slots mc ms E lsM C hk hn hR hL hls
  subst hp
  have hc8 := sk_cat (E := E) hs; have hrl := rl_ge hrk
  have K1 := K p l e s m args below meth c H locs cells slots mc ms E lsM C hk hn hR hL hls
  have ev : tr E (vI (min x y)) = .int (if Int32.ofInt y < Int32.ofInt x then Int32.ofInt y else Int32.ofInt x) := by
    show Value.int (Int32.ofInt (min x y)) = _
    simp only [i32_lt hy hx]
    split
    · rw [show min x y = y by omega]
    · rw [show min x y = x by omega]
  rw [List.map_cons, ev] at K1
  exact va_mmin C.1 C.2.1 (C.2.2.2.1.trans hls.1.symm) C.2.2.2.2.1 (C.2.2.2.2.2.1 _ hl) (C.2.2.2.2.2.1 _ hi) (C.2.2.2.2.2.1 _ hini) (C.2.2.2.2.2.1 _ hcode) hrk (by show _ + 13 ≤ rl (mK M); omega) (by show cells ≤ mc; omega) (by show slots ≤ ms; omega) hd K1
theorem s_getQ {idx : Nat} (hd : decode (mC M) pc = .ok (.getstatic idx, 3)) (hl : Cond.fieldLink (mO M) idx RX9 "QUOTED" "[J" ∈ lw_g) (hp : pc + 3 = pc') (K : XA M pc' ls (vR (-2) :: sk) w h k n Q) : XA M pc ls sk w h k n Q := by
  intro p l e s m args below meth c H locs cells slots mc ms E lsM C hk hn hR hL hls
  subst hp
  obtain ⟨-, hs, hq, ⟨cf, kf, fi, f, a, cell, h1, h2, h3, h4, h5, h6, h7, h8⟩, hz⟩ := hR.2.2.2.2
  have ha : a < eB E := by rw [← hz]; exact (Array.getElem?_eq_some_iff.mp h5).1
  exact W.gets C.1 C.2.1 C.2.2.2.2.1 (C.2.2.2.2.2.1 _ hl) h1 h2 h3 h4 (by rw [hR.2.1 a ha]; exact h5) (fun e => by rw [e] at h6; cases h6) h7 rfl hd (K p l e s m args below meth c H locs cells slots mc ms E lsM C hk hn hR hL hls)
end SD
