/-! ===== the abstract machine: whole numbers for ints and longs, numbers of cells for references ===== -/
abbrev AV : Type := Int ⊕ Int ⊕ Int
abbrev vI (x : Int) : AV := Sum.inl x
abbrev vR (a : Int) : AV := Sum.inr (Sum.inl a)
abbrev vL (x : Int) : AV := Sum.inr (Sum.inr x)
abbrev AH : Type := Int → Int → Int
/-- a world's shape: how many cells; each one's kind and length; its final references -/
abbrev WS : Type := Nat × (Int → Nat × Nat) × (Int → Int → Int)
def wt (w : WS) (a : Int) : Nat := (w.2.1 a).1
def wn (w : WS) (a : Int) : Nat := (w.2.1 a).2
def wl (w : WS) (a : Int) : Int := (wn w a : Int)
def wf (w : WS) (a i : Int) : Int := w.2.2 a i
/-- where things lie: our first cell; the script; the quoted words; the classes' numbers; the heap at the start -/
abbrev EV : Type := Nat × Nat × Nat × va_G × Heap
abbrev eB (E : EV) : Nat := E.1
abbrev eS (E : EV) : Nat := E.2.1
abbrev eQ (E : EV) : Nat := E.2.2.1
abbrev eD (E : EV) : va_G := E.2.2.2.1
abbrev eH (E : EV) : Heap := E.2.2.2.2
def ad (E : EV) (a : Int) : Nat := if a = -1 then eS E else if a = -2 then eQ E else eB E + (a - 1).toNat
def rf (E : EV) (a : Int) : Value := if a = 0 then .null else .ref (ad E a)
def tr (E : EV) (v : AV) : Value := match v with
  | .inl x => .int (Int32.ofInt x)
  | .inr (.inl a) => rf E a
  | .inr (.inr x) => .long (Int64.ofInt x)
def TC : Nat → u_T := fun k => match k with
  | 0 => TX0
  | 1 => TX1
  | 2 => TX2
  | 3 => TX3
  | 4 => TX4
  | 5 => TX5
  | 6 => TX6
  | 7 => TX7
  | 8 => TX8
  | _ => TX9
def tyC : Nat → Nat → FieldType := fun k => match k with
  | 0 => tyX0
  | 1 => tyX1
  | 2 => tyX2
  | 3 => tyX3
  | 4 => tyX4
  | 5 => tyX5
  | 6 => tyX6
  | 7 => tyX7
  | 8 => tyX8
  | _ => tyX9
def fvv (E : EV) (t : FieldType) (fin : Bool) (x y : Int) : Value := match t with
  | .long => .long (Int64.ofInt x)
  | .object _ => rf E (bif fin then y else x)
  | .array _ => rf E (bif fin then y else x)
  | _ => .int (Int32.ofInt x)
def fv (E : EV) (w : WS) (h : AH) (k : Nat) (a : Int) (i : Nat) : Value := fvv E (tyC k i) (TC k i).2.2.2 (h a i) (wf w a i)
def arrAt (s : State) (E : EV) (w : WS) (H : Heap) (a : Int) (ty : FieldType) (f : Nat → Value) : Prop :=
  ∃ cell : Cell, H[ad E a]? = some cell ∧ s.isArrayOf cell ty ∧ cell.vm ≠ .unknown ∧ cell.slots.size = wn w a ∧ ∀ j : Nat, j < wn w a → cell.slots[j]? = some (f j)
/-- the quoted words' row: the machine tells its length by 32 bits alone -/
def arrQ (s : State) (E : EV) (w : WS) (H : Heap) (a : Int) (f : Nat → Value) : Prop :=
  ∃ cell : Cell, H[ad E a]? = some cell ∧ s.isArrayOf cell .long ∧ cell.vm ≠ .unknown ∧ (wn w a ≤ cell.slots.size ∧ cell.slots.size.toInt32 = Int32.ofNat (wn w a)) ∧ ∀ j : Nat, j < wn w a → cell.slots[j]? = some (f j)
def cellAt (s : State) (E : EV) (w : WS) (h : AH) (H : Heap) (a : Int) : Prop :=
  (wt w a = 1 → arrAt s E w H a .int (fun j => .int (Int32.ofInt (h a j)))) ∧
  (wt w a = 2 → arrAt s E w H a .byte (fun j => .int (Int32.ofInt (h a j)))) ∧
  (wt w a = 3 → arrAt s E w H a .boolean (fun j => .int (Int32.ofInt (h a j)))) ∧
  (wt w a = 4 → arrAt s E w H a .long (fun j => .long (Int64.ofInt (h a j)))) ∧
  (wt w a = 6 → arrAt s E w H a .int (fun j => .int (Int32.ofInt (h a j)))) ∧
  (wt w a = 7 → arrQ s E w H a (fun j => .long (Int64.ofInt (h a j)))) ∧
  (wt w a = 5 → arrAt s E w H a (.object RX7) (fun j => rf E (h a j)) ∧ ∃ (cell : Cell) (kA : Class) (comp : ClassId), H[ad E a]? = some cell ∧ s.vm.classes[cell.cls]? = some kA ∧ kA.kind = .array comp (.object RX7) ∧ s.vm.findClass RX7 = some comp) ∧
  ∀ k : Nat, wt w a = 10 + k → ∃ q : vw_C, vwCl[k]? = some q ∧ t_OB (ad E a) ((eD E).1 k) q.2.2 ((eD E).2 k) H (fun i => fv E w h k a i)
def Fix (s : State) (E : EV) : Prop := va_K (eD E) vwCl [] s ∧ eS E < eB E ∧ eQ E < eB E ∧ va_Z RX9 "QUOTED" "[J" (.ref (eQ E)) (fun q => eB E ≤ q) s (eH E) ∧ (eH E).size = eB E
def Rep (s : State) (E : EV) (w : WS) (h : AH) (H : Heap) : Prop :=
  H.size = eB E + w.1 ∧ (∀ q : Nat, q < eB E → H[q]? = (eH E)[q]?) ∧ (∀ a : Int, wt w a ≠ 0 → ((a = -1 ∧ wt w a = 6) ∨ (a = -2 ∧ wt w a = 7) ∨ (1 ≤ a ∧ a ≤ w.1 ∧ wt w a ≠ 6 ∧ wt w a ≠ 7)) ∧ wn w a ≤ 2147483647) ∧ (∀ a : Int, cellAt s E w h H a) ∧ Fix s E
/-- one value of one cell is another -/
def st (h : AH) (a i v : Int) : AH := fun b j => if b = a ∧ j = i then v else h b j
theorem st_same (h : AH) (a i v : Int) : st h a i v a i = v := by simp [st]
theorem st_cell (h : AH) {a b : Int} (i v j : Int) (hb : b ≠ a) : st h a i v b j = h b j := by simp [st, hb]
theorem st_slot (h : AH) (a b : Int) {i j : Int} (v : Int) (hj : j ≠ i) : st h a i v b j = h b j := by simp [st, hj]
theorem st_row (h : AH) {a b : Int} (i v : Int) (hb : b ≠ a) : st h a i v b = h b := by funext j; simp [st, hb]
/-- a method: its name, bytes, locals, answer, class, and how deep it calls -/
abbrev MI : Type := MethodName × ByteArray × Nat × Option FieldType × String × Nat
abbrev mY (M : MI) : MethodName := M.1
abbrev mC (M : MI) : ByteArray := M.2.1
abbrev mL (M : MI) : Nat := M.2.2.1
abbrev mR (M : MI) : Option FieldType := M.2.2.2.1
abbrev mO (M : MI) : String := M.2.2.2.2.1
abbrev mK (M : MI) : Nat := M.2.2.2.2.2
/-- the tables' words that hold in every callee, too -/
def lw_g : List Cond := lw_tbl.filter goodWord
theorem mem_g {w : Cond} (i : Nat) (h : lw_tbl[i]? = some w) (hg : goodWord w = true) : w ∈ lw_g := List.mem_filter.mpr ⟨List.mem_of_getElem? h, hg⟩
def wsM (M : MI) : List Cond := Cond.code (mY M) (mC M) (mL M) (mR M) :: lw_g
/-- the words of locals that a method so deep has room for (the law itself: 9) -/
def rl (k : Nat) : Nat := if k = 9 then 366 else 40 * k
theorem rl_ge {k : Nat} (h : 1 ≤ k) : 40 ≤ rl k := by unfold rl; split <;> omega
def rmM (M : MI) (mc ms : Nat) : Room := { frames := mK M, cells := mc, slots := ms, locals := rl (mK M) }
/-- what the tables say of a method -/
def mOK (N : MI) (na : Nat) : Prop := Cond.code (mY N) (mC N) (mL N) (mR N) ∈ lw_g ∧ Cond.initialized (mY N).cls ∈ lw_g ∧ ((mY N).cls ≠ "java/lang/invoke/MethodHandle" ∧ (mY N).cls ≠ "java/lang/invoke/VarHandle" ∧ (parseMethodDescriptor (mY N).desc).map (fun d => d.parameters.length) = some na)
def mOKi (N : MI) : Prop := Cond.instanceMethod (mY N) ∈ lw_g ∧ Cond.selects (mY N).cls (mY N) (mY N) ∈ lw_g
/-- what a constructor asks of the tables beside these: the links to nest mates, the array over Wakes -/
def nests : List (String × Nat × MethodName × String) := [(RX8, 9, yX3_init, RX8), (RX3, 11, yX6_init, RX8), (RX8, 55, yX2_init, RX8), (RX8, 62, yX1_init, RX8), (RX8, 69, yX4_init, RX8)]
def Nst (s : State) : Prop := (∀ q ∈ nests, va_Nw (.methodLinkNest q.1 q.2.1 q.2.2.1 q.2.2.2) s) ∧ va_AO RX7 s
def Ctx (M : MI) (p : Program) (s : State) (m : MethodId) (args : Array Value) (meth : Method) (c : Code) : Prop :=
  p.tables.exec = Jvm.exec ∧ c.code = mC M ∧ meth.sig.returnType = mR M ∧ c.maxLocals = mL M ∧ s.vm.findClass (mO M) = some m.cls ∧ (∀ w ∈ lw_g, w.before args s = true) ∧ meth.locks = false ∧ meth.name = (mY M).name ∧ Nst s
/-- the locals, by their places -/
def lvl (E : EV) : Nat → List (Option AV) → List (Nat × Value)
  | _, [] => []
  | i, none :: t => lvl E (i + 1) t
  | i, some v :: t => (i, tr E v) :: lvl E (i + 1) t
def Qc (E : EV) (Q : Option AV → WS → AH → Prop) : Array Value → State → Outcome → State → Prop := fun _ _ o t => ∃ (r : Option AV) (w : WS) (h : AH), o = .returned (r.map (tr E)) ∧ Rep t E w h t.heap ∧ Q r w h
/-- from this frame, with this world, and room for k cells of n slots more, the method comes to its end with Q -/
def XA (M : MI) (pc : Nat) (ls : List (Option AV)) (sk : List AV) (w : WS) (h : AH) (k n : Nat) (Q : Option AV → WS → AH → Prop) : Prop :=
  ∀ (p : Program) (l : Launch) (e : Env) (s : State) (m : MethodId) (args : Array Value) (below : List Frame) (meth : Method) (c : Code) (H : Heap) (locs : List Loc) (cells slots mc ms : Nat) (E : EV) (lsM : Array Slot),
    Ctx M p s m args meth c → cells + k ≤ mc → slots + n ≤ ms → Rep s E w h H → (∀ q ∈ locs, eB E ≤ q.base) → lv_has lsM (mL M) (lvl E 0 ls) →
    W p l e (rmM M mc ms) s m args below meth c H locs cells slots (MQ below (Qc E Q) args s mc ms (fun q => eB E ≤ q)) (F0 m pc lsM (sk.map (tr E)))
def Pc (E : EV) (av : List AV) (w : WS) (h : AH) : Array Value → State → Prop := fun v U => v = (av.map (tr E)).toArray ∧ Rep U E w h U.heap ∧ Nst U
/-- the method's contract: called with these it comes back with Q -/
def CA (M : MI) (av : List AV) (w : WS) (h : AH) (k n : Nat) (Q : Option AV → WS → AH → Prop) : Prop :=
  ∀ (l : Launch) (E : EV), Met l (mY M) (wsM M) (rmM M k n) (Pc E av w h) (Qc E Q) k n (fun q => eB E ≤ q)
abbrev inR (x : Int) : Prop := -2147483648 ≤ x ∧ x ≤ 2147483647
abbrev inL (x : Int) : Prop := -9223372036854775808 ≤ x ∧ x ≤ 9223372036854775807
theorem i32_t {x : Int} (h : inR x) : (Int32.ofInt x).toInt = x := Int32.toInt_ofInt_of_le (by have := h.1; omega) (by have := h.2; omega)
theorem i32_eq {x y : Int} (hx : inR x) (hy : inR y) : Int32.ofInt x = Int32.ofInt y ↔ x = y := by rw [← Int32.toInt_inj, i32_t hx, i32_t hy]
theorem i32_lt {x y : Int} (hx : inR x) (hy : inR y) : Int32.ofInt x < Int32.ofInt y ↔ x < y := by rw [Int32.lt_iff_toInt_lt, i32_t hx, i32_t hy]
theorem i32_le {x y : Int} (hx : inR x) (hy : inR y) : Int32.ofInt x ≤ Int32.ofInt y ↔ x ≤ y := by rw [Int32.le_iff_toInt_le, i32_t hx, i32_t hy]
theorem i64_t {x : Int} (h : inL x) : (Int64.ofInt x).toInt = x := Int64.toInt_ofInt_of_le (by have := h.1; omega) (by have := h.2; omega)
theorem i64_eq {x y : Int} (hx : inL x) (hy : inL y) : Int64.ofInt x = Int64.ofInt y ↔ x = y := by rw [← Int64.toInt_inj, i64_t hx, i64_t hy]
theorem i64_lt {x y : Int} (hx : inL x) (hy : inL y) : Int64.ofInt x < Int64.ofInt y ↔ x < y := by rw [Int64.lt_iff_toInt_lt, i64_t hx, i64_t hy]
theorem i32_0 : (0 : Int32) = Int32.ofInt 0 := rfl
theorem i32_in {i : Int} {N : Nat} (h0 : 0 ≤ i) (h1 : i < N) (hr : inR i) : ¬ (Int32.ofInt i < 0 ∨ N ≤ (Int32.ofInt i).toNatClampNeg) := by
  have e : (Int32.ofInt i).toNatClampNeg = i.toNat := by
    show (Int32.ofInt i).toInt.toNat = _
    rw [i32_t hr]
  rintro (a | a)
  · rw [i32_0, i32_lt hr (by decide)] at a; omega
  · rw [e] at a; omega
theorem i32_ix {i : Int} (hr : inR i) : (Int32.ofInt i).toNatClampNeg = i.toNat := by
  show (Int32.ofInt i).toInt.toNat = _
  rw [i32_t hr]
theorem i32_ne0 {y : Int} (h : 0 < y ∧ y ≤ 2147483647) : ¬ Int32.ofInt y = 0 := by
  rw [i32_0, i32_eq ⟨by omega, h.2⟩ (by decide)]; omega
theorem i32_div {x y : Int} (hx : 0 ≤ x ∧ x ≤ 2147483647) (hy : 0 < y ∧ y ≤ 2147483647) : Int32.ofInt (x / y) = Int32.ofInt x / Int32.ofInt y := by
  rw [← Int32.ofInt_tdiv (show _ ≤ x by show (-2147483648 : Int) ≤ x; omega) hx.2 (show _ ≤ y by show (-2147483648 : Int) ≤ y; omega) hy.2, Int.tdiv_eq_ediv_of_nonneg hx.1]
theorem i32_rem {x y : Int} (hx : 0 ≤ x ∧ x ≤ 2147483647) (hy : 0 < y ∧ y ≤ 2147483647) : Int32.ofInt (x % y) = Int32.ofInt x - Int32.ofInt x / Int32.ofInt y * Int32.ofInt y := by
  rw [← i32_div hx hy, ← Int32.ofInt_mul, ← Int32.ofInt_sub, Int.emod_def, Int.mul_comm]
theorem i32_remT {x y : Int} (hx : inR x) (hy : 0 < y ∧ y ≤ 2147483647) : Int32.ofInt (x.tmod y) = Int32.ofInt x - Int32.ofInt x / Int32.ofInt y * Int32.ofInt y := by
  rw [← Int32.ofInt_tdiv hx.1 hx.2 (show _ ≤ y by show (-2147483648 : Int) ≤ y; omega) hy.2, ← Int32.ofInt_mul, ← Int32.ofInt_sub, Int.tmod_def, Int.mul_comm]
theorem lvl_mem {E : EV} : ∀ (ls : List (Option AV)) (i : Nat) (q : Nat × Value), q ∈ lvl E i ls ↔ ∃ (k : Nat) (v : AV), ls[k]? = some (some v) ∧ q = (i + k, tr E v) := by
  intro ls
  induction ls with
  | nil => intro i q; simp [lvl]
  | cons a t ih =>
    intro i q
    cases a with
    | none =>
      rw [lvl, ih]
      constructor
      · rintro ⟨k, v, h1, rfl⟩
        exact ⟨k + 1, v, by simpa using h1, by simp; omega⟩
      · rintro ⟨k, v, h1, rfl⟩
        cases k with
        | zero => simp at h1
        | succ k => exact ⟨k, v, by simpa using h1, by simp; omega⟩
    | some u =>
      rw [lvl, List.mem_cons, ih]
      constructor
      · rintro (rfl | ⟨k, v, h1, rfl⟩)
        · exact ⟨0, u, by simp, by simp⟩
        · exact ⟨k + 1, v, by simpa using h1, by simp; omega⟩
      · rintro ⟨k, v, h1, rfl⟩
        cases k with
        | zero =>
          simp at h1
          subst h1
          exact Or.inl (by simp)
        | succ k => exact Or.inr ⟨k, v, by simpa using h1, by simp; omega⟩
theorem lvl_at {E : EV} {ls : List (Option AV)} {lsM : Array Slot} {nL i : Nat} {v : AV} (h : lv_has lsM nL (lvl E 0 ls)) (hi : ls[i]? = some (some v)) : lsM[i]? = some (.val (tr E v)) :=
  h.2.2 (i, tr E v) ((lvl_mem ls 0 _).mpr ⟨i, v, hi, by simp⟩)
/-- a local of one word: a long that reached into its place is gone -/
def killL (ls : List (Option AV)) (i : Nat) : List (Option AV) := match i with
  | 0 => ls
  | j + 1 => match ls[j]? with
    | some (some (Sum.inr (Sum.inr _))) => ls.set j none
    | _ => ls
def setL (ls : List (Option AV)) (i : Nat) (v : AV) : List (Option AV) := (killL ls i).set i (some v)
/-- a long -/
def setL2 (ls : List (Option AV)) (i : Nat) (v : AV) : List (Option AV) := setL (ls.set (i + 1) none) i v
theorem tr_cat (E : EV) (v : AV) : (tr E v).category = 2 → ∃ x, v = vL x := by
  intro h
  match v, h with
  | .inl x, h => simp [tr, Value.category] at h
  | .inr (.inl a), h =>
    simp only [tr, rf] at h
    split at h <;> simp [Value.category] at h
  | .inr (.inr x), _ => exact ⟨x, rfl⟩
theorem tr_cat1 (E : EV) {v : AV} (h : ∀ x, v ≠ vL x) : (tr E v).category = 1 := by
  rcases lv_cat (tr E v) with e | e
  · exact e
  · obtain ⟨x, rfl⟩ := tr_cat E v e; exact absurd rfl (h x)
theorem setL_get {ls : List (Option AV)} {i j : Nat} {v u : AV} (h : (setL ls i v)[j]? = some (some u)) : (j = i ∧ u = v) ∨ (j ≠ i ∧ ls[j]? = some (some u) ∧ ¬ (j + 1 = i ∧ ∃ x, u = vL x)) := by
  unfold setL at h
  by_cases hj : j = i
  · subst hj
    left
    refine ⟨rfl, ?_⟩
    generalize killL ls j = L at h
    rw [List.getElem?_set] at h
    by_cases hl : j < L.length
    · simp [hl] at h; exact h.symm
    · simp [hl] at h
  · right
    refine ⟨hj, ?_⟩
    rw [List.getElem?_set_ne (Ne.symm hj)] at h
    cases i with
    | zero => exact ⟨h, by omega⟩
    | succ i =>
      unfold killL at h
      dsimp only at h
      split at h
      · next x hx =>
        by_cases hji : j = i
        · subst hji
          rw [List.getElem?_set] at h
          simp at h
        · rw [List.getElem?_set_ne (Ne.symm hji)] at h
          exact ⟨h, by omega⟩
      · next hx =>
        refine ⟨h, ?_⟩
        rintro ⟨e, x, rfl⟩
        have : j = i := by omega
        subst this
        exact hx x h
theorem setL_lv {E : EV} {ls : List (Option AV)} {i : Nat} {v : AV} : ∀ q ∈ lvl E 0 (setL ls i v), q ∈ (i, tr E v) :: (lvl E 0 ls).filter (fun q => !(q.1 == i) && !(q.1 + 1 == i && q.2.category == 2)) := by
  intro q hq
  obtain ⟨j, u, h1, rfl⟩ := (lvl_mem _ 0 _).mp hq
  rcases setL_get h1 with ⟨rfl, rfl⟩ | ⟨hj, h2, h3⟩
  · simp
  · refine List.mem_cons_of_mem _ (List.mem_filter.mpr ⟨(lvl_mem _ 0 _).mpr ⟨j, u, h2, rfl⟩, ?_⟩)
    simp only [Nat.zero_add, Bool.and_eq_true, Bool.not_eq_true', beq_eq_false_iff_ne, ne_eq, Bool.and_eq_false_iff]
    refine ⟨hj, ?_⟩
    by_cases e : j + 1 = i
    · exact Or.inr (fun hc => h3 ⟨e, tr_cat E u hc⟩)
    · exact Or.inl e
theorem setL2_lv {E : EV} {ls : List (Option AV)} {i : Nat} {v : AV} : ∀ q ∈ lvl E 0 (setL2 ls i v), q ∈ (i, tr E v) :: (lvl E 0 ls).filter (fun q => !(q.1 == i) && (!(q.1 == i + 1) && !(q.1 + 1 == i && q.2.category == 2))) := by
  intro q hq
  obtain ⟨j, u, h1, rfl⟩ := (lvl_mem _ 0 _).mp hq
  rcases setL_get h1 with ⟨rfl, rfl⟩ | ⟨hj, h2, h3⟩
  · simp
  · rw [List.getElem?_set] at h2
    split at h2
    · split at h2 <;> cases h2
    · next hne =>
      refine List.mem_cons_of_mem _ (List.mem_filter.mpr ⟨(lvl_mem _ 0 _).mpr ⟨j, u, h2, rfl⟩, ?_⟩)
      simp only [Nat.zero_add, Bool.and_eq_true, Bool.not_eq_true', beq_eq_false_iff_ne, ne_eq, Bool.and_eq_false_iff]
      refine ⟨hj, fun e => hne e.symm, ?_⟩
      by_cases e : j + 1 = i
      · exact Or.inr (fun hc => h3 ⟨e, tr_cat E u hc⟩)
      · exact Or.inl e
theorem lv_less {ls : Array Slot} {nL : Nat} {l l' : List (Nat × Value)} (h : lv_has ls nL l) (hs : ∀ q ∈ l', q ∈ l) : lv_has ls nL l' := ⟨h.1, h.2.1, fun q hq => h.2.2 q (hs q hq)⟩
/-! worlds -/
theorem ad_own {E : EV} {a : Int} (h : 1 ≤ a) : ad E a = eB E + (a - 1).toNat := by unfold ad; rw [if_neg (by omega), if_neg (by omega)]
theorem rf_own {E : EV} {a : Int} (h : a ≠ 0) : rf E a = .ref (ad E a) := by unfold rf; rw [if_neg h]
theorem Rep.id {s : State} {E : EV} {w : WS} {h : AH} {H : Heap} (R : Rep s E w h H) {a : Int} (ha : wt w a ≠ 0) : a ≠ 0 := by
  rcases (R.2.2.1 a ha).1 with h | h | h <;> omega
theorem Rep.own {s : State} {E : EV} {w : WS} {h : AH} {H : Heap} (R : Rep s E w h H) {a : Int} (ha : wt w a ≠ 0) (h6 : wt w a ≠ 6) (h7 : wt w a ≠ 7) : 1 ≤ a := by
  rcases (R.2.2.1 a ha).1 with h | h | h <;> omega
theorem Rep.len {s : State} {E : EV} {w : WS} {h : AH} {H : Heap} (R : Rep s E w h H) {a i : Int} (ha : wt w a ≠ 0) (h0 : 0 ≤ i) (h1 : i < wl w a) : inR i := by
  have := (R.2.2.1 a ha).2
  unfold wl at h1
  constructor <;> omega
theorem Rep.apart {s : State} {E : EV} {w : WS} {h : AH} {H : Heap} (R : Rep s E w h H) {a b : Int} (ha : 1 ≤ a) (hb : wt w b ≠ 0) (hn : b ≠ a) : ad E b ≠ ad E a := by
  obtain ⟨-, hs, hq, -⟩ := R.2.2.2.2
  rw [ad_own ha]
  rcases (R.2.2.1 b hb).1 with ⟨rfl, -⟩ | ⟨rfl, -⟩ | h
  · unfold ad; rw [if_pos rfl]; omega
  · unfold ad; rw [if_neg (by omega), if_pos rfl]; omega
  · rw [ad_own h.1]; omega
theorem arrAt.kept {s : State} {E : EV} {w : WS} {H H1 : Heap} {a : Int} {ty : FieldType} {f : Nat → Value} (h : arrAt s E w H a ty f) (hq : H1[ad E a]? = H[ad E a]?) : arrAt s E w H1 a ty f := by
  obtain ⟨cell, h1, h2⟩ := h
  exact ⟨cell, by rw [hq]; exact h1, h2⟩
theorem arrAt.moved {s U : State} {E : EV} {w : WS} {H : Heap} {a : Int} {ty : FieldType} {f : Nat → Value} (hvm : s.vm.Alike U.vm) (h : arrAt s E w H a ty f) : arrAt U E w H a ty f := by
  obtain ⟨cell, h1, h2, h3⟩ := h
  exact ⟨cell, h1, State.isArrayOf_alike hvm h2, h3⟩
theorem arrQ.kept {s : State} {E : EV} {w : WS} {H H1 : Heap} {a : Int} {f : Nat → Value} (h : arrQ s E w H a f) (hq : H1[ad E a]? = H[ad E a]?) : arrQ s E w H1 a f := by
  obtain ⟨cell, h1, h2⟩ := h
  exact ⟨cell, by rw [hq]; exact h1, h2⟩
theorem arrQ.moved {s U : State} {E : EV} {w : WS} {H : Heap} {a : Int} {f : Nat → Value} (hvm : s.vm.Alike U.vm) (h : arrQ s E w H a f) : arrQ U E w H a f := by
  obtain ⟨cell, h1, h2, h3⟩ := h
  exact ⟨cell, h1, State.isArrayOf_alike hvm h2, h3⟩
theorem cellAt.kept {s : State} {E : EV} {w : WS} {h h1 : AH} {H H1 : Heap} {a : Int} (C : cellAt s E w h H a) (hq : wt w a ≠ 0 → H1[ad E a]? = H[ad E a]?) (hh : h1 a = h a) : cellAt s E w h1 H1 a := by
  obtain ⟨c1, c2, c3, c4, d1, d2, c5, c6⟩ := C
  refine ⟨fun e => ?_, fun e => ?_, fun e => ?_, fun e => ?_, fun e => ?_, fun e => ?_, fun e => ?_, fun k e => ?_⟩
  · rw [hh]; exact (c1 e).kept (hq (by omega))
  · rw [hh]; exact (c2 e).kept (hq (by omega))
  · rw [hh]; exact (c3 e).kept (hq (by omega))
  · rw [hh]; exact (c4 e).kept (hq (by omega))
  · rw [hh]; exact (d1 e).kept (hq (by omega))
  · rw [hh]; exact (d2 e).kept (hq (by omega))
  · rw [hh]
    obtain ⟨d, cell, kA, comp, e1, e2⟩ := c5 e
    exact ⟨d.kept (hq (by omega)), cell, kA, comp, by rw [hq (by omega)]; exact e1, e2⟩
  · obtain ⟨q, e1, e2⟩ := c6 k e
    refine ⟨q, e1, (e2.kept (hq (by omega))).to fun i _ => ?_⟩
    unfold fv
    rw [hh]
theorem cellAt.moved {s U : State} {E : EV} {w : WS} {h : AH} {H : Heap} {a : Int} (hvm : s.vm.Alike U.vm) (C : cellAt s E w h H a) : cellAt U E w h H a := by
  obtain ⟨c1, c2, c3, c4, d1, d2, c5, c6⟩ := C
  refine ⟨fun e => (c1 e).moved hvm, fun e => (c2 e).moved hvm, fun e => (c3 e).moved hvm, fun e => (c4 e).moved hvm, fun e => (d1 e).moved hvm, fun e => (d2 e).moved hvm, fun e => ?_, c6⟩
  obtain ⟨d, cell, kA, comp, e1, e2, e3, e4⟩ := c5 e
  obtain ⟨k', hk', he⟩ := hvm.2.2 _ _ e2
  exact ⟨d.moved hvm, cell, k', comp, e1, hk', by rw [he]; exact e3, by rw [hvm.findClass]; exact e4⟩
theorem Fix.moved {s U : State} {E : EV} (hvm : s.vm.Alike U.vm) (F : Fix s E) : Fix U E := ⟨va_K.moved hvm F.1, F.2.1, F.2.2.1, F.2.2.2.1.moved hvm, F.2.2.2.2⟩
theorem Rep.moved {s U : State} {E : EV} {w : WS} {h : AH} {H : Heap} (hvm : s.vm.Alike U.vm) (R : Rep s E w h H) : Rep U E w h H := ⟨R.1, R.2.1, R.2.2.1, fun a => (R.2.2.2.1 a).moved hvm, R.2.2.2.2.moved hvm⟩
/-- one cell has changed -/
theorem Rep.set {s : State} {E : EV} {w : WS} {h h1 : AH} {H H1 : Heap} (R : Rep s E w h H) {a : Int} (ha : 1 ≤ a) (hz : H1.size = H.size) (ho : ∀ q : Nat, q ≠ ad E a → H1[q]? = H[q]?) (hc : cellAt s E w h1 H1 a) (hh : ∀ b, b ≠ a → h1 b = h b) : Rep s E w h1 H1 := by
  refine ⟨hz.trans R.1, fun q hq => ?_, R.2.2.1, fun b => ?_, R.2.2.2.2⟩
  · rw [ho q (by rw [ad_own ha]; omega)]; exact R.2.1 q hq
  · by_cases e : b = a
    · subst e; exact hc
    · exact (R.2.2.2.1 b).kept (fun hw => ho _ (R.apart ha hw e)) (hh b e)
