theorem rf_or (E : EV) (x : Int) : tr E (vR x) = .null ∨ ∃ a, tr E (vR x) = .ref a := by
  by_cases z : x = 0
  · exact Or.inl (by show rf E x = _; unfold rf; rw [if_pos z])
  · exact Or.inr ⟨ad E x, by show rf E x = _; unfold rf; rw [if_neg z]⟩
def cmpZ (x y : Int) : Int := if x > y then 1 else if x = y then 0 else -1
theorem cmpZ_in (x y : Int) : inR (cmpZ x y) := by unfold cmpZ; split; decide; split <;> decide
theorem cmpZ_lg {x y : Int} (hx : inL x) (hy : inL y) : lg_cmp (Int64.ofInt x) (Int64.ofInt y) = Int32.ofInt (cmpZ x y) := by
  unfold lg_cmp cmpZ
  simp only [gt_iff_lt, i64_lt hy hx, i64_eq hx hy]
  split
  · rfl
  · split <;> rfl
theorem cmpZ_eq (x y : Int) : cmpZ x y = 0 ↔ x = y := by unfold cmpZ; split; omega; split <;> omega
theorem cmpZ_lt (x y : Int) : cmpZ x y < 0 ↔ x < y := by unfold cmpZ; split; omega; split <;> omega
theorem cmpZ_le (x y : Int) : cmpZ x y ≤ 0 ↔ x ≤ y := by unfold cmpZ; split; omega; split <;> omega
theorem cmpZ_gt (x y : Int) : 0 < cmpZ x y ↔ y < x := by unfold cmpZ; split; omega; split <;> omega
theorem cmpZ_ge (x y : Int) : 0 ≤ cmpZ x y ↔ y ≤ x := by unfold cmpZ; split; omega; split <;> omega
section SA
variable {M : MI} {pc pc' : Nat} {ls ls' : List (Option AV)} {sk : List AV} {w : WS} {h : AH} {k n : Nat} {Q : Option AV → WS → AH → Prop}
theorem s_iconst {c0 : Int} (hd : decode (mC M) pc = .ok (.iconst c0, 1)) (hp : pc + 1 = pc') (K : XA M pc' ls (vI c0 :: sk) w h k n Q) : XA M pc ls sk w h k n Q := by
  intro p l e s m args below meth c H locs cells slots mc ms E lsM C hk hn hR hL hls
  subst hp
  exact lv_iconst C.1 C.2.1 hd rfl (K p l e s m args below meth c H locs cells slots mc ms E lsM C hk hn hR hL hls)
theorem s_bipush {c0 : Int} (hd : decode (mC M) pc = .ok (.bipush c0, 2)) (hv : (Int8.ofInt c0).toInt32 = Int32.ofInt c0) (hp : pc + 2 = pc') (K : XA M pc' ls (vI c0 :: sk) w h k n Q) : XA M pc ls sk w h k n Q := by
  intro p l e s m args below meth c H locs cells slots mc ms E lsM C hk hn hR hL hls
  subst hp
  exact lv_bipush C.1 C.2.1 hd hv (K p l e s m args below meth c H locs cells slots mc ms E lsM C hk hn hR hL hls)
theorem s_sipush {c0 : Int} (hd : decode (mC M) pc = .ok (.sipush c0, 3)) (hv : (Int16.ofInt c0).toInt32 = Int32.ofInt c0) (hp : pc + 3 = pc') (K : XA M pc' ls (vI c0 :: sk) w h k n Q) : XA M pc ls sk w h k n Q := by
  intro p l e s m args below meth c H locs cells slots mc ms E lsM C hk hn hR hL hls
  subst hp
  exact lv_sipush C.1 C.2.1 hd hv (K p l e s m args below meth c H locs cells slots mc ms E lsM C hk hn hR hL hls)
theorem s_lconst {c0 : Fin 2} {x : Int} (hd : decode (mC M) pc = .ok (.lconst c0, 1)) (hv : Int64.ofNat (c0 : Nat) = Int64.ofInt x) (hp : pc + 1 = pc') (K : XA M pc' ls (vL x :: sk) w h k n Q) : XA M pc ls sk w h k n Q := by
  intro p l e s m args below meth c H locs cells slots mc ms E lsM C hk hn hR hL hls
  subst hp
  exact lv_lconst C.1 C.2.1 hd hv (K p l e s m args below meth c H locs cells slots mc ms E lsM C hk hn hR hL hls)
theorem s_ldc {x : Int} {idx : Nat} {v : Int32} (hd : decode (mC M) pc = .ok (.ldc idx, 2)) (hl : Cond.constant (mO M) idx v ∈ lw_g) (hv : v = Int32.ofInt x) (hp : pc + 2 = pc') (K : XA M pc' ls (vI x :: sk) w h k n Q) : XA M pc ls sk w h k n Q := by
  intro p l e s m args below meth c H locs cells slots mc ms E lsM C hk hn hR hL hls
  subst hp
  subst hv
  exact lv_ldc C.1 C.2.1 C.2.2.2.2.1 (C.2.2.2.2.2.1 _ hl) hd (K p l e s m args below meth c H locs cells slots mc ms E lsM C hk hn hR hL hls)
theorem s_ldc2 {x : Int} {idx : Nat} {v : Int64} (hd : decode (mC M) pc = .ok (.ldc2_w idx, 3)) (hl : Cond.constantLong (mO M) idx v ∈ lw_g) (hv : v = Int64.ofInt x) (hp : pc + 3 = pc') (K : XA M pc' ls (vL x :: sk) w h k n Q) : XA M pc ls sk w h k n Q := by
  intro p l e s m args below meth c H locs cells slots mc ms E lsM C hk hn hR hL hls
  subst hp
  subst hv
  exact lv_ldc2 C.1 C.2.1 C.2.2.2.2.1 (C.2.2.2.2.2.1 _ hl) hd (K p l e s m args below meth c H locs cells slots mc ms E lsM C hk hn hR hL hls)
theorem s_null  (hd : decode (mC M) pc = .ok (.aconst_null, 1)) (hp : pc + 1 = pc') (K : XA M pc' ls (vR 0 :: sk) w h k n Q) : XA M pc ls sk w h k n Q := by
  intro p l e s m args below meth c H locs cells slots mc ms E lsM C hk hn hR hL hls
  subst hp
  exact lv_null C.1 C.2.1 hd (K p l e s m args below meth c H locs cells slots mc ms E lsM C hk hn hR hL hls)
theorem s_iload_n {i : Fin 4} {x : Int} (hd : decode (mC M) pc = .ok (.iload_n i, 1)) (hl : ls[(i : Nat)]? = some (some (vI x))) (hp : pc + 1 = pc') (K : XA M pc' ls (vI x :: sk) w h k n Q) : XA M pc ls sk w h k n Q := by
  intro p l e s m args below meth c H locs cells slots mc ms E lsM C hk hn hR hL hls
  subst hp
  exact lv_iload_n C.1 C.2.1 hd rfl (lvl_at hls hl) (K p l e s m args below meth c H locs cells slots mc ms E lsM C hk hn hR hL hls)
theorem s_iload {i : Nat} {x : Int} (hd : decode (mC M) pc = .ok (.iload i, 2)) (hl : ls[i]? = some (some (vI x))) (hp : pc + 2 = pc') (K : XA M pc' ls (vI x :: sk) w h k n Q) : XA M pc ls sk w h k n Q := by
  intro p l e s m args below meth c H locs cells slots mc ms E lsM C hk hn hR hL hls
  subst hp
  exact lv_iload C.1 C.2.1 hd (lvl_at hls hl) (K p l e s m args below meth c H locs cells slots mc ms E lsM C hk hn hR hL hls)
theorem s_lload_n {i : Fin 4} {x : Int} (hd : decode (mC M) pc = .ok (.lload_n i, 1)) (hl : ls[(i : Nat)]? = some (some (vL x))) (hp : pc + 1 = pc') (K : XA M pc' ls (vL x :: sk) w h k n Q) : XA M pc ls sk w h k n Q := by
  intro p l e s m args below meth c H locs cells slots mc ms E lsM C hk hn hR hL hls
  subst hp
  exact lv_lload_n C.1 C.2.1 hd rfl (lvl_at hls hl) (K p l e s m args below meth c H locs cells slots mc ms E lsM C hk hn hR hL hls)
theorem s_lload {i : Nat} {x : Int} (hd : decode (mC M) pc = .ok (.lload i, 2)) (hl : ls[i]? = some (some (vL x))) (hp : pc + 2 = pc') (K : XA M pc' ls (vL x :: sk) w h k n Q) : XA M pc ls sk w h k n Q := by
  intro p l e s m args below meth c H locs cells slots mc ms E lsM C hk hn hR hL hls
  subst hp
  exact lv_lload C.1 C.2.1 hd (lvl_at hls hl) (K p l e s m args below meth c H locs cells slots mc ms E lsM C hk hn hR hL hls)
theorem s_aload_n {i : Fin 4} {x : Int} (hd : decode (mC M) pc = .ok (.aload_n i, 1)) (hl : ls[(i : Nat)]? = some (some (vR x))) (hp : pc + 1 = pc') (K : XA M pc' ls (vR x :: sk) w h k n Q) : XA M pc ls sk w h k n Q := by
  intro p l e s m args below meth c H locs cells slots mc ms E lsM C hk hn hR hL hls
  subst hp
  have hv := lvl_at hls hl
  have K1 := K p l e s m args below meth c H locs cells slots mc ms E lsM C hk hn hR hL hls
  intro T hT X
  obtain ⟨t, a, b⟩ := K1 T hT X
  refine ⟨t, ?_, b⟩
  have e : tr E (vR x) = rf E x := rfl
  rw [e] at hv
  rw [List.map_cons, e] at a
  unfold rf at hv a
  split at hv
  · next z =>
    rw [if_pos z] at a
    jvm_step X.here [X.here.top, C.1, C.2.1, hd, hv, Value.isRef]
    exact a
  · next z =>
    rw [if_neg z] at a
    jvm_step X.here [X.here.top, C.1, C.2.1, hd, hv, Value.isRef]
    exact a
theorem s_aload {i : Nat} {x : Int} (hd : decode (mC M) pc = .ok (.aload i, 2)) (hl : ls[i]? = some (some (vR x))) (hp : pc + 2 = pc') (K : XA M pc' ls (vR x :: sk) w h k n Q) : XA M pc ls sk w h k n Q := by
  intro p l e s m args below meth c H locs cells slots mc ms E lsM C hk hn hR hL hls
  subst hp
  have hv := lvl_at hls hl
  have K1 := K p l e s m args below meth c H locs cells slots mc ms E lsM C hk hn hR hL hls
  intro T hT X
  obtain ⟨t, a, b⟩ := K1 T hT X
  refine ⟨t, ?_, b⟩
  have e : tr E (vR x) = rf E x := rfl
  rw [e] at hv
  rw [List.map_cons, e] at a
  unfold rf at hv a
  split at hv
  · next z =>
    rw [if_pos z] at a
    jvm_step X.here [X.here.top, C.1, C.2.1, hd, hv, Value.isRef]
    exact a
  · next z =>
    rw [if_neg z] at a
    jvm_step X.here [X.here.top, C.1, C.2.1, hd, hv, Value.isRef]
    exact a
theorem s_istore_n {i : Fin 4} {x : Int} (hd : decode (mC M) pc = .ok (.istore_n i, 1)) (hi : (i : Nat) < mL M) (hs : setL ls i (vI x) = ls') (hp : pc + 1 = pc') (K : XA M pc' ls' sk w h k n Q) : XA M pc ls (vI x :: sk) w h k n Q := by
  intro p l e s m args below meth c H locs cells slots mc ms E lsM C hk hn hR hL hls
  subst hp
  subst hs
  exact lv_istore_n C.1 C.2.1 hd rfl hls hi rfl (fun ls1 h1 => K p l e s m args below meth c H locs cells slots mc ms E ls1 C hk hn hR hL (lv_less h1 setL_lv))
theorem s_istore {i : Nat} {x : Int} (hd : decode (mC M) pc = .ok (.istore i, 2)) (hi : i < mL M) (hs : setL ls i (vI x) = ls') (hp : pc + 2 = pc') (K : XA M pc' ls' sk w h k n Q) : XA M pc ls (vI x :: sk) w h k n Q := by
  intro p l e s m args below meth c H locs cells slots mc ms E lsM C hk hn hR hL hls
  subst hp
  subst hs
  exact lv_istore C.1 C.2.1 hd hls hi rfl (fun ls1 h1 => K p l e s m args below meth c H locs cells slots mc ms E ls1 C hk hn hR hL (lv_less h1 setL_lv))
theorem s_lstore_n {i : Fin 4} {x : Int} (hd : decode (mC M) pc = .ok (.lstore_n i, 1)) (hi : (i : Nat) + 1 < mL M) (hs : setL2 ls i (vL x) = ls') (hp : pc + 1 = pc') (K : XA M pc' ls' sk w h k n Q) : XA M pc ls (vL x :: sk) w h k n Q := by
  intro p l e s m args below meth c H locs cells slots mc ms E lsM C hk hn hR hL hls
  subst hp
  subst hs
  exact lv_lstore_n C.1 C.2.1 hd rfl hls hi rfl (fun ls1 h1 => K p l e s m args below meth c H locs cells slots mc ms E ls1 C hk hn hR hL (lv_less h1 setL2_lv))
theorem s_lstore {i : Nat} {x : Int} (hd : decode (mC M) pc = .ok (.lstore i, 2)) (hi : i + 1 < mL M) (hs : setL2 ls i (vL x) = ls') (hp : pc + 2 = pc') (K : XA M pc' ls' sk w h k n Q) : XA M pc ls (vL x :: sk) w h k n Q := by
  intro p l e s m args below meth c H locs cells slots mc ms E lsM C hk hn hR hL hls
  subst hp
  subst hs
  exact lv_lstore C.1 C.2.1 hd hls hi rfl (fun ls1 h1 => K p l e s m args below meth c H locs cells slots mc ms E ls1 C hk hn hR hL (lv_less h1 setL2_lv))
theorem s_astore_n {i : Fin 4} {x : Int} (hd : decode (mC M) pc = .ok (.astore_n i, 1)) (hi : (i : Nat) < mL M) (hs : setL ls i (vR x) = ls') (hp : pc + 1 = pc') (K : XA M pc' ls' sk w h k n Q) : XA M pc ls (vR x :: sk) w h k n Q := by
  intro p l e s m args below meth c H locs cells slots mc ms E lsM C hk hn hR hL hls
  subst hp
  subst hs
  have hcat : (tr E (vR x)).category = 1 := by
    show (rf E x).category = 1
    unfold rf; split <;> rfl
  obtain ⟨ls1, e', h'⟩ := lv_store1 (v := tr E (vR x)) (i := (i : Nat)) hls hi hcat
  have K1 := K p l e s m args below meth c H locs cells slots mc ms E ls1 C hk hn hR hL (lv_less h' setL_lv)
  intro T hT X
  obtain ⟨t, a, b⟩ := K1 T hT X
  refine ⟨t, ?_, b⟩
  rw [List.map_cons]
  have e : tr E (vR x) = rf E x := rfl
  rw [e] at e' ⊢
  unfold rf at e' ⊢
  split
  · next z =>
    rw [if_pos z] at e'
    jvm_step X.here [X.here.top, ↓top_set X.here.top, C.1, C.2.1, hd, e', Value.isRef]
    exact a
  · next z =>
    rw [if_neg z] at e'
    jvm_step X.here [X.here.top, ↓top_set X.here.top, C.1, C.2.1, hd, e', Value.isRef]
    exact a
theorem s_astore {i : Nat} {x : Int} (hd : decode (mC M) pc = .ok (.astore i, 2)) (hi : i < mL M) (hs : setL ls i (vR x) = ls') (hp : pc + 2 = pc') (K : XA M pc' ls' sk w h k n Q) : XA M pc ls (vR x :: sk) w h k n Q := by
  intro p l e s m args below meth c H locs cells slots mc ms E lsM C hk hn hR hL hls
  subst hp
  subst hs
  have hcat : (tr E (vR x)).category = 1 := by
    show (rf E x).category = 1
    unfold rf; split <;> rfl
  obtain ⟨ls1, e', h'⟩ := lv_store1 (v := tr E (vR x)) (i := i) hls hi hcat
  have K1 := K p l e s m args below meth c H locs cells slots mc ms E ls1 C hk hn hR hL (lv_less h' setL_lv)
  intro T hT X
  obtain ⟨t, a, b⟩ := K1 T hT X
  refine ⟨t, ?_, b⟩
  rw [List.map_cons]
  have e : tr E (vR x) = rf E x := rfl
  rw [e] at e' ⊢
  unfold rf at e' ⊢
  split
  · next z =>
    rw [if_pos z] at e'
    jvm_step X.here [X.here.top, ↓top_set X.here.top, C.1, C.2.1, hd, e', Value.isRef]
    exact a
  · next z =>
    rw [if_neg z] at e'
    jvm_step X.here [X.here.top, ↓top_set X.here.top, C.1, C.2.1, hd, e', Value.isRef]
    exact a
theorem s_iinc {i : Nat} {c0 x : Int} (hd : decode (mC M) pc = .ok (.iinc i c0, 3)) (hl : ls[i]? = some (some (vI x))) (hi : i < mL M) (hs : setL ls i (vI (x + c0)) = ls') (hp : pc + 3 = pc') (K : XA M pc' ls' sk w h k n Q) : XA M pc ls sk w h k n Q := by
  intro p l e s m args below meth c H locs cells slots mc ms E lsM C hk hn hR hL hls
  subst hp; subst hs
  obtain ⟨j, hj⟩ := List.getElem?_of_mem ((lvl_mem (E := E) ls 0 (i, tr E (vI x))).mpr ⟨i, vI x, hl, by simp⟩)
  exact lv_iinc C.1 C.2.1 hd hls hj (Int32.ofInt_add x c0).symm hi rfl (fun ls1 h1 => K p l e s m args below meth c H locs cells slots mc ms E ls1 C hk hn hR hL (lv_less h1 setL_lv))
theorem s_iadd {x y : Int} (hd : decode (mC M) pc = .ok (.iadd, 1)) (hp : pc + 1 = pc') (K : XA M pc' ls (vI (x + y) :: sk) w h k n Q) : XA M pc ls (vI y :: vI x :: sk) w h k n Q := by
  intro p l e s m args below meth c H locs cells slots mc ms E lsM C hk hn hR hL hls
  subst hp
  have K1 := K p l e s m args below meth c H locs cells slots mc ms E lsM C hk hn hR hL hls
  rw [List.map_cons, show tr E (vI (x + y)) = .int (Int32.ofInt (x + y)) from rfl, Int32.ofInt_add] at K1
  exact lv_iadd C.1 C.2.1 hd K1
theorem s_isub {x y : Int} (hd : decode (mC M) pc = .ok (.isub, 1)) (hp : pc + 1 = pc') (K : XA M pc' ls (vI (x - y) :: sk) w h k n Q) : XA M pc ls (vI y :: vI x :: sk) w h k n Q := by
  intro p l e s m args below meth c H locs cells slots mc ms E lsM C hk hn hR hL hls
  subst hp
  have K1 := K p l e s m args below meth c H locs cells slots mc ms E lsM C hk hn hR hL hls
  rw [List.map_cons, show tr E (vI (x - y)) = .int (Int32.ofInt (x - y)) from rfl, Int32.ofInt_sub] at K1
  exact lv_isub C.1 C.2.1 hd K1
theorem s_imul {x y : Int} (hd : decode (mC M) pc = .ok (.imul, 1)) (hp : pc + 1 = pc') (K : XA M pc' ls (vI (x * y) :: sk) w h k n Q) : XA M pc ls (vI y :: vI x :: sk) w h k n Q := by
  intro p l e s m args below meth c H locs cells slots mc ms E lsM C hk hn hR hL hls
  subst hp
  have K1 := K p l e s m args below meth c H locs cells slots mc ms E lsM C hk hn hR hL hls
  rw [List.map_cons, show tr E (vI (x * y)) = .int (Int32.ofInt (x * y)) from rfl, Int32.ofInt_mul] at K1
  exact lv_imul C.1 C.2.1 hd K1
theorem s_ladd {x y : Int} (hd : decode (mC M) pc = .ok (.ladd, 1)) (hp : pc + 1 = pc') (K : XA M pc' ls (vL (x + y) :: sk) w h k n Q) : XA M pc ls (vL y :: vL x :: sk) w h k n Q := by
  intro p l e s m args below meth c H locs cells slots mc ms E lsM C hk hn hR hL hls
  subst hp
  have K1 := K p l e s m args below meth c H locs cells slots mc ms E lsM C hk hn hR hL hls
  rw [List.map_cons, show tr E (vL (x + y)) = .long (Int64.ofInt (x + y)) from rfl, Int64.ofInt_add] at K1
  exact lv_ladd C.1 C.2.1 hd K1
theorem s_lsub {x y : Int} (hd : decode (mC M) pc = .ok (.lsub, 1)) (hp : pc + 1 = pc') (K : XA M pc' ls (vL (x - y) :: sk) w h k n Q) : XA M pc ls (vL y :: vL x :: sk) w h k n Q := by
  intro p l e s m args below meth c H locs cells slots mc ms E lsM C hk hn hR hL hls
  subst hp
  have K1 := K p l e s m args below meth c H locs cells slots mc ms E lsM C hk hn hR hL hls
  rw [List.map_cons, show tr E (vL (x - y)) = .long (Int64.ofInt (x - y)) from rfl, Int64.ofInt_sub] at K1
  exact lv_lsub C.1 C.2.1 hd K1
theorem s_lmul {x y : Int} (hd : decode (mC M) pc = .ok (.lmul, 1)) (hp : pc + 1 = pc') (K : XA M pc' ls (vL (x * y) :: sk) w h k n Q) : XA M pc ls (vL y :: vL x :: sk) w h k n Q := by
  intro p l e s m args below meth c H locs cells slots mc ms E lsM C hk hn hR hL hls
  subst hp
  have K1 := K p l e s m args below meth c H locs cells slots mc ms E lsM C hk hn hR hL hls
  rw [List.map_cons, show tr E (vL (x * y)) = .long (Int64.ofInt (x * y)) from rfl, Int64.ofInt_mul] at K1
  exact lv_lmul C.1 C.2.1 hd K1
theorem s_idiv {x y : Int} (hd : decode (mC M) pc = .ok (.idiv, 1)) (hx : 0 ≤ x ∧ x ≤ 2147483647) (hy : 0 < y ∧ y ≤ 2147483647) (hp : pc + 1 = pc') (K : XA M pc' ls (vI (x / y) :: sk) w h k n Q) : XA M pc ls (vI y :: vI x :: sk) w h k n Q := by
  intro p l e s m args below meth c H locs cells slots mc ms E lsM C hk hn hR hL hls
  subst hp
  have K1 := K p l e s m args below meth c H locs cells slots mc ms E lsM C hk hn hR hL hls
  rw [List.map_cons, show tr E (vI (x / y)) = .int (Int32.ofInt (x / y)) from rfl, i32_div hx hy] at K1
  exact lv_idiv C.1 C.2.1 hd (i32_ne0 hy) K1
theorem s_irem {x y : Int} (hd : decode (mC M) pc = .ok (.irem, 1)) (hx : 0 ≤ x ∧ x ≤ 2147483647) (hy : 0 < y ∧ y ≤ 2147483647) (hp : pc + 1 = pc') (K : XA M pc' ls (vI (x % y) :: sk) w h k n Q) : XA M pc ls (vI y :: vI x :: sk) w h k n Q := by
  intro p l e s m args below meth c H locs cells slots mc ms E lsM C hk hn hR hL hls
  subst hp
  have K1 := K p l e s m args below meth c H locs cells slots mc ms E lsM C hk hn hR hL hls
  rw [List.map_cons, show tr E (vI (x % y)) = .int (Int32.ofInt (x % y)) from rfl, i32_rem hx hy] at K1
  exact lv_irem C.1 C.2.1 hd (i32_ne0 hy) K1
theorem s_iremT {x y : Int} (hd : decode (mC M) pc = .ok (.irem, 1)) (hx : inR x) (hy : 0 < y ∧ y ≤ 2147483647) (hp : pc + 1 = pc') (K : XA M pc' ls (vI (x.tmod y) :: sk) w h k n Q) : XA M pc ls (vI y :: vI x :: sk) w h k n Q := by
  intro p l e s m args below meth c H locs cells slots mc ms E lsM C hk hn hR hL hls
  subst hp
  have K1 := K p l e s m args below meth c H locs cells slots mc ms E lsM C hk hn hR hL hls
  rw [List.map_cons, show tr E (vI (x.tmod y)) = .int (Int32.ofInt (x.tmod y)) from rfl, i32_remT hx hy] at K1
  exact lv_irem C.1 C.2.1 hd (i32_ne0 hy) K1
theorem s_i2l {x : Int} (hd : decode (mC M) pc = .ok (.i2l, 1)) (hx : inR x) (hp : pc + 1 = pc') (K : XA M pc' ls (vL x :: sk) w h k n Q) : XA M pc ls (vI x :: sk) w h k n Q := by
  intro p l e s m args below meth c H locs cells slots mc ms E lsM C hk hn hR hL hls
  subst hp
  exact lv_i2l C.1 C.2.1 hd (Int32.toInt64_ofInt hx.1 hx.2) (K p l e s m args below meth c H locs cells slots mc ms E lsM C hk hn hR hL hls)
theorem s_l2i {x : Int} (hd : decode (mC M) pc = .ok (.l2i, 1)) (hp : pc + 1 = pc') (K : XA M pc' ls (vI x :: sk) w h k n Q) : XA M pc ls (vL x :: sk) w h k n Q := by
  intro p l e s m args below meth c H locs cells slots mc ms E lsM C hk hn hR hL hls
  subst hp
  exact lv_l2i C.1 C.2.1 hd Int64.toInt32_ofInt (K p l e s m args below meth c H locs cells slots mc ms E lsM C hk hn hR hL hls)
theorem s_i2b {x y : Int} (hd : decode (mC M) pc = .ok (.i2b, 1)) (hv : (Int32.ofInt x).toInt8.toInt32 = Int32.ofInt y) (hp : pc + 1 = pc') (K : XA M pc' ls (vI y :: sk) w h k n Q) : XA M pc ls (vI x :: sk) w h k n Q := by
  intro p l e s m args below meth c H locs cells slots mc ms E lsM C hk hn hR hL hls
  subst hp
  exact lv_i2b C.1 C.2.1 hd hv (K p l e s m args below meth c H locs cells slots mc ms E lsM C hk hn hR hL hls)
theorem s_iand {x y z : Int} (hd : decode (mC M) pc = .ok (.iand, 1)) (hv : Int32.ofInt x &&& Int32.ofInt y = Int32.ofInt z) (hp : pc + 1 = pc') (K : XA M pc' ls (vI z :: sk) w h k n Q) : XA M pc ls (vI y :: vI x :: sk) w h k n Q := by
  intro p l e s m args below meth c H locs cells slots mc ms E lsM C hk hn hR hL hls
  subst hp
  have K1 := K p l e s m args below meth c H locs cells slots mc ms E lsM C hk hn hR hL hls
  rw [List.map_cons, show tr E (vI z) = .int (Int32.ofInt z) from rfl, ← hv] at K1
  exact lv_iand C.1 C.2.1 hd K1
theorem s_ior {x y z : Int} (hd : decode (mC M) pc = .ok (.ior, 1)) (hv : Int32.ofInt x ||| Int32.ofInt y = Int32.ofInt z) (hp : pc + 1 = pc') (K : XA M pc' ls (vI z :: sk) w h k n Q) : XA M pc ls (vI y :: vI x :: sk) w h k n Q := by
  intro p l e s m args below meth c H locs cells slots mc ms E lsM C hk hn hR hL hls
  subst hp
  have K1 := K p l e s m args below meth c H locs cells slots mc ms E lsM C hk hn hR hL hls
  rw [List.map_cons, show tr E (vI z) = .int (Int32.ofInt z) from rfl, ← hv] at K1
  exact lv_ior C.1 C.2.1 hd K1
theorem s_ishl {x y z : Int} (hd : decode (mC M) pc = .ok (.ishl, 1)) (hv : Int32.ofInt x <<< (Int32.ofInt y &&& 31) = Int32.ofInt z) (hp : pc + 1 = pc') (K : XA M pc' ls (vI z :: sk) w h k n Q) : XA M pc ls (vI y :: vI x :: sk) w h k n Q := by
  intro p l e s m args below meth c H locs cells slots mc ms E lsM C hk hn hR hL hls
  subst hp
  have K1 := K p l e s m args below meth c H locs cells slots mc ms E lsM C hk hn hR hL hls
  rw [List.map_cons, show tr E (vI z) = .int (Int32.ofInt z) from rfl, ← hv] at K1
  exact lv_ishl C.1 C.2.1 hd K1
theorem s_ishr {x y z : Int} (hd : decode (mC M) pc = .ok (.ishr, 1)) (hv : Int32.ofInt x >>> (Int32.ofInt y &&& 31) = Int32.ofInt z) (hp : pc + 1 = pc') (K : XA M pc' ls (vI z :: sk) w h k n Q) : XA M pc ls (vI y :: vI x :: sk) w h k n Q := by
  intro p l e s m args below meth c H locs cells slots mc ms E lsM C hk hn hR hL hls
  subst hp
  have K1 := K p l e s m args below meth c H locs cells slots mc ms E lsM C hk hn hR hL hls
  rw [List.map_cons, show tr E (vI z) = .int (Int32.ofInt z) from rfl, ← hv] at K1
  exact lv_ishr C.1 C.2.1 hd K1
theorem s_iushr {x y z : Int} (hd : decode (mC M) pc = .ok (.iushr, 1)) (hv : ((Int32.ofInt x).toUInt32 >>> ((Int32.ofInt y).toUInt32 &&& Int32.toUInt32 31)).toInt32 = Int32.ofInt z) (hp : pc + 1 = pc') (K : XA M pc' ls (vI z :: sk) w h k n Q) : XA M pc ls (vI y :: vI x :: sk) w h k n Q := by
  intro p l e s m args below meth c H locs cells slots mc ms E lsM C hk hn hR hL hls
  subst hp
  exact lv_iushr C.1 C.2.1 hd hv (K p l e s m args below meth c H locs cells slots mc ms E lsM C hk hn hR hL hls)
theorem s_dup {v : AV} (hd : decode (mC M) pc = .ok (.dup, 1)) (hv : ∀ x, v ≠ vL x) (hp : pc + 1 = pc') (K : XA M pc' ls (v :: v :: sk) w h k n Q) : XA M pc ls (v :: sk) w h k n Q := by
  intro p l e s m args below meth c H locs cells slots mc ms E lsM C hk hn hR hL hls
  subst hp
  exact lv_dup C.1 C.2.1 hd (tr_cat1 E hv) (K p l e s m args below meth c H locs cells slots mc ms E lsM C hk hn hR hL hls)
theorem s_pop {v : AV} (hd : decode (mC M) pc = .ok (.pop, 1)) (hv : ∀ x, v ≠ vL x) (hp : pc + 1 = pc') (K : XA M pc' ls sk w h k n Q) : XA M pc ls (v :: sk) w h k n Q := by
  intro p l e s m args below meth c H locs cells slots mc ms E lsM C hk hn hR hL hls
  subst hp
  exact lv_pop C.1 C.2.1 hd (tr_cat1 E hv) (K p l e s m args below meth c H locs cells slots mc ms E lsM C hk hn hR hL hls)
theorem s_if_eq {x off : Int} {tgt : Nat} (hd : decode (mC M) pc = .ok (.ifCond .eq off, 3)) (ht : (pc : Int) + off = (tgt : Int)) (hp : pc + 3 = pc') (hx : inR x) (K1 : x = 0 → XA M tgt ls sk w h k n Q) (K2 : ¬ x = 0 → XA M pc' ls sk w h k n Q) : XA M pc ls (vI x :: sk) w h k n Q := by
  intro p l e s m args below meth c H locs cells slots mc ms E lsM C hk hn hR hL hls
  subst hp
  exact lv_if_eq C.1 C.2.1 hd ht (fun q => K1 (by rw [show (0 : Int32) = Int32.ofInt 0 from rfl] at q; exact (((i32_eq hx (by decide : inR 0))).mp q)) p l e s m args below meth c H locs cells slots mc ms E lsM C hk hn hR hL hls) (fun q => K2 (by rw [show (0 : Int32) = Int32.ofInt 0 from rfl] at q; exact (fun z => q (((i32_eq hx (by decide : inR 0))).mpr z))) p l e s m args below meth c H locs cells slots mc ms E lsM C hk hn hR hL hls)
theorem s_icmp_eq {x y off : Int} {tgt : Nat} (hd : decode (mC M) pc = .ok (.if_icmp .eq off, 3)) (ht : (pc : Int) + off = (tgt : Int)) (hp : pc + 3 = pc') (hx : inR x) (hy : inR y) (K1 : x = y → XA M tgt ls sk w h k n Q) (K2 : ¬ x = y → XA M pc' ls sk w h k n Q) : XA M pc ls (vI y :: vI x :: sk) w h k n Q := by
  intro p l e s m args below meth c H locs cells slots mc ms E lsM C hk hn hR hL hls
  subst hp
  exact lv_icmp_eq C.1 C.2.1 hd ht (fun q => K1 (by exact (((i32_eq hx hy)).mp q)) p l e s m args below meth c H locs cells slots mc ms E lsM C hk hn hR hL hls) (fun q => K2 (by exact (fun z => q (((i32_eq hx hy)).mpr z))) p l e s m args below meth c H locs cells slots mc ms E lsM C hk hn hR hL hls)
theorem s_if_ne {x off : Int} {tgt : Nat} (hd : decode (mC M) pc = .ok (.ifCond .ne off, 3)) (ht : (pc : Int) + off = (tgt : Int)) (hp : pc + 3 = pc') (hx : inR x) (K1 : ¬ x = 0 → XA M tgt ls sk w h k n Q) (K2 : x = 0 → XA M pc' ls sk w h k n Q) : XA M pc ls (vI x :: sk) w h k n Q := by
  intro p l e s m args below meth c H locs cells slots mc ms E lsM C hk hn hR hL hls
  subst hp
  exact lv_if_ne C.1 C.2.1 hd ht (fun q => K1 (by rw [show (0 : Int32) = Int32.ofInt 0 from rfl] at q; exact (fun z => q (((i32_eq hx (by decide : inR 0))).mpr z))) p l e s m args below meth c H locs cells slots mc ms E lsM C hk hn hR hL hls) (fun q => K2 (by rw [show (0 : Int32) = Int32.ofInt 0 from rfl] at q; exact (((i32_eq hx (by decide : inR 0))).mp q)) p l e s m args below meth c H locs cells slots mc ms E lsM C hk hn hR hL hls)
theorem s_icmp_ne {x y off : Int} {tgt : Nat} (hd : decode (mC M) pc = .ok (.if_icmp .ne off, 3)) (ht : (pc : Int) + off = (tgt : Int)) (hp : pc + 3 = pc') (hx : inR x) (hy : inR y) (K1 : ¬ x = y → XA M tgt ls sk w h k n Q) (K2 : x = y → XA M pc' ls sk w h k n Q) : XA M pc ls (vI y :: vI x :: sk) w h k n Q := by
  intro p l e s m args below meth c H locs cells slots mc ms E lsM C hk hn hR hL hls
  subst hp
  exact lv_icmp_ne C.1 C.2.1 hd ht (fun q => K1 (by exact (fun z => q (((i32_eq hx hy)).mpr z))) p l e s m args below meth c H locs cells slots mc ms E lsM C hk hn hR hL hls) (fun q => K2 (by exact (((i32_eq hx hy)).mp q)) p l e s m args below meth c H locs cells slots mc ms E lsM C hk hn hR hL hls)
theorem s_if_lt {x off : Int} {tgt : Nat} (hd : decode (mC M) pc = .ok (.ifCond .lt off, 3)) (ht : (pc : Int) + off = (tgt : Int)) (hp : pc + 3 = pc') (hx : inR x) (K1 : x < 0 → XA M tgt ls sk w h k n Q) (K2 : ¬ x < 0 → XA M pc' ls sk w h k n Q) : XA M pc ls (vI x :: sk) w h k n Q := by
  intro p l e s m args below meth c H locs cells slots mc ms E lsM C hk hn hR hL hls
  subst hp
  exact lv_if_lt C.1 C.2.1 hd ht (fun q => K1 (by rw [show (0 : Int32) = Int32.ofInt 0 from rfl] at q; exact (((i32_lt hx (by decide : inR 0))).mp q)) p l e s m args below meth c H locs cells slots mc ms E lsM C hk hn hR hL hls) (fun q => K2 (by rw [show (0 : Int32) = Int32.ofInt 0 from rfl] at q; exact (fun z => q (((i32_lt hx (by decide : inR 0))).mpr z))) p l e s m args below meth c H locs cells slots mc ms E lsM C hk hn hR hL hls)
theorem s_icmp_lt {x y off : Int} {tgt : Nat} (hd : decode (mC M) pc = .ok (.if_icmp .lt off, 3)) (ht : (pc : Int) + off = (tgt : Int)) (hp : pc + 3 = pc') (hx : inR x) (hy : inR y) (K1 : x < y → XA M tgt ls sk w h k n Q) (K2 : ¬ x < y → XA M pc' ls sk w h k n Q) : XA M pc ls (vI y :: vI x :: sk) w h k n Q := by
  intro p l e s m args below meth c H locs cells slots mc ms E lsM C hk hn hR hL hls
  subst hp
  exact lv_icmp_lt C.1 C.2.1 hd ht (fun q => K1 (by exact (((i32_lt hx hy)).mp q)) p l e s m args below meth c H locs cells slots mc ms E lsM C hk hn hR hL hls) (fun q => K2 (by exact (fun z => q (((i32_lt hx hy)).mpr z))) p l e s m args below meth c H locs cells slots mc ms E lsM C hk hn hR hL hls)
theorem s_if_ge {x off : Int} {tgt : Nat} (hd : decode (mC M) pc = .ok (.ifCond .ge off, 3)) (ht : (pc : Int) + off = (tgt : Int)) (hp : pc + 3 = pc') (hx : inR x) (K1 : 0 ≤ x → XA M tgt ls sk w h k n Q) (K2 : ¬ 0 ≤ x → XA M pc' ls sk w h k n Q) : XA M pc ls (vI x :: sk) w h k n Q := by
  intro p l e s m args below meth c H locs cells slots mc ms E lsM C hk hn hR hL hls
  subst hp
  exact lv_if_ge C.1 C.2.1 hd ht (fun q => K1 (by rw [show (0 : Int32) = Int32.ofInt 0 from rfl] at q; exact (((i32_le (by decide : inR 0) hx)).mp q)) p l e s m args below meth c H locs cells slots mc ms E lsM C hk hn hR hL hls) (fun q => K2 (by rw [show (0 : Int32) = Int32.ofInt 0 from rfl] at q; exact (fun z => q (((i32_le (by decide : inR 0) hx)).mpr z))) p l e s m args below meth c H locs cells slots mc ms E lsM C hk hn hR hL hls)
theorem s_icmp_ge {x y off : Int} {tgt : Nat} (hd : decode (mC M) pc = .ok (.if_icmp .ge off, 3)) (ht : (pc : Int) + off = (tgt : Int)) (hp : pc + 3 = pc') (hx : inR x) (hy : inR y) (K1 : y ≤ x → XA M tgt ls sk w h k n Q) (K2 : ¬ y ≤ x → XA M pc' ls sk w h k n Q) : XA M pc ls (vI y :: vI x :: sk) w h k n Q := by
  intro p l e s m args below meth c H locs cells slots mc ms E lsM C hk hn hR hL hls
  subst hp
  exact lv_icmp_ge C.1 C.2.1 hd ht (fun q => K1 (by exact (((i32_le hy hx)).mp q)) p l e s m args below meth c H locs cells slots mc ms E lsM C hk hn hR hL hls) (fun q => K2 (by exact (fun z => q (((i32_le hy hx)).mpr z))) p l e s m args below meth c H locs cells slots mc ms E lsM C hk hn hR hL hls)
theorem s_if_gt {x off : Int} {tgt : Nat} (hd : decode (mC M) pc = .ok (.ifCond .gt off, 3)) (ht : (pc : Int) + off = (tgt : Int)) (hp : pc + 3 = pc') (hx : inR x) (K1 : 0 < x → XA M tgt ls sk w h k n Q) (K2 : ¬ 0 < x → XA M pc' ls sk w h k n Q) : XA M pc ls (vI x :: sk) w h k n Q := by
  intro p l e s m args below meth c H locs cells slots mc ms E lsM C hk hn hR hL hls
  subst hp
  exact lv_if_gt C.1 C.2.1 hd ht (fun q => K1 (by rw [show (0 : Int32) = Int32.ofInt 0 from rfl] at q; exact (((i32_lt (by decide : inR 0) hx)).mp q)) p l e s m args below meth c H locs cells slots mc ms E lsM C hk hn hR hL hls) (fun q => K2 (by rw [show (0 : Int32) = Int32.ofInt 0 from rfl] at q; exact (fun z => q (((i32_lt (by decide : inR 0) hx)).mpr z))) p l e s m args below meth c H locs cells slots mc ms E lsM C hk hn hR hL hls)
theorem s_icmp_gt {x y off : Int} {tgt : Nat} (hd : decode (mC M) pc = .ok (.if_icmp .gt off, 3)) (ht : (pc : Int) + off = (tgt : Int)) (hp : pc + 3 = pc') (hx : inR x) (hy : inR y) (K1 : y < x → XA M tgt ls sk w h k n Q) (K2 : ¬ y < x → XA M pc' ls sk w h k n Q) : XA M pc ls (vI y :: vI x :: sk) w h k n Q := by
  intro p l e s m args below meth c H locs cells slots mc ms E lsM C hk hn hR hL hls
  subst hp
  exact lv_icmp_gt C.1 C.2.1 hd ht (fun q => K1 (by exact (((i32_lt hy hx)).mp q)) p l e s m args below meth c H locs cells slots mc ms E lsM C hk hn hR hL hls) (fun q => K2 (by exact (fun z => q (((i32_lt hy hx)).mpr z))) p l e s m args below meth c H locs cells slots mc ms E lsM C hk hn hR hL hls)
theorem s_if_le {x off : Int} {tgt : Nat} (hd : decode (mC M) pc = .ok (.ifCond .le off, 3)) (ht : (pc : Int) + off = (tgt : Int)) (hp : pc + 3 = pc') (hx : inR x) (K1 : x ≤ 0 → XA M tgt ls sk w h k n Q) (K2 : ¬ x ≤ 0 → XA M pc' ls sk w h k n Q) : XA M pc ls (vI x :: sk) w h k n Q := by
  intro p l e s m args below meth c H locs cells slots mc ms E lsM C hk hn hR hL hls
  subst hp
  exact lv_if_le C.1 C.2.1 hd ht (fun q => K1 (by rw [show (0 : Int32) = Int32.ofInt 0 from rfl] at q; exact (((i32_le hx (by decide : inR 0))).mp q)) p l e s m args below meth c H locs cells slots mc ms E lsM C hk hn hR hL hls) (fun q => K2 (by rw [show (0 : Int32) = Int32.ofInt 0 from rfl] at q; exact (fun z => q (((i32_le hx (by decide : inR 0))).mpr z))) p l e s m args below meth c H locs cells slots mc ms E lsM C hk hn hR hL hls)
theorem s_icmp_le {x y off : Int} {tgt : Nat} (hd : decode (mC M) pc = .ok (.if_icmp .le off, 3)) (ht : (pc : Int) + off = (tgt : Int)) (hp : pc + 3 = pc') (hx : inR x) (hy : inR y) (K1 : x ≤ y → XA M tgt ls sk w h k n Q) (K2 : ¬ x ≤ y → XA M pc' ls sk w h k n Q) : XA M pc ls (vI y :: vI x :: sk) w h k n Q := by
  intro p l e s m args below meth c H locs cells slots mc ms E lsM C hk hn hR hL hls
  subst hp
  exact lv_icmp_le C.1 C.2.1 hd ht (fun q => K1 (by exact (((i32_le hx hy)).mp q)) p l e s m args below meth c H locs cells slots mc ms E lsM C hk hn hR hL hls) (fun q => K2 (by exact (fun z => q (((i32_le hx hy)).mpr z))) p l e s m args below meth c H locs cells slots mc ms E lsM C hk hn hR hL hls)
theorem s_goto {off : Int} {tgt : Nat} (hd : decode (mC M) pc = .ok (.goto off, 3)) (ht : (pc : Int) + off = (tgt : Int)) (K : XA M tgt ls sk w h k n Q) : XA M pc ls sk w h k n Q := by
  intro p l e s m args below meth c H locs cells slots mc ms E lsM C hk hn hR hL hls
  exact lv_goto C.1 C.2.1 hd ht (K p l e s m args below meth c H locs cells slots mc ms E lsM C hk hn hR hL hls)
theorem s_ifnull {x off : Int} {tgt : Nat} (hd : decode (mC M) pc = .ok (.ifnull off, 3)) (ht : (pc : Int) + off = (tgt : Int)) (hp : pc + 3 = pc') (K1 : x = 0 → XA M tgt ls sk w h k n Q) (K2 : ¬ x = 0 → XA M pc' ls sk w h k n Q) : XA M pc ls (vR x :: sk) w h k n Q := by
  intro p l e s m args below meth c H locs cells slots mc ms E lsM C hk hn hR hL hls
  subst hp
  rw [List.map_cons, show tr E (vR x) = rf E x from rfl]
  unfold rf
  split
  · next z => exact lv_ifnullN C.1 C.2.1 hd ht (K1 z p l e s m args below meth c H locs cells slots mc ms E lsM C hk hn hR hL hls)
  · next z => exact lv_ifnull C.1 C.2.1 hd (K2 z p l e s m args below meth c H locs cells slots mc ms E lsM C hk hn hR hL hls)
theorem s_ifnonnull {x off : Int} {tgt : Nat} (hd : decode (mC M) pc = .ok (.ifnonnull off, 3)) (ht : (pc : Int) + off = (tgt : Int)) (hp : pc + 3 = pc') (K1 : ¬ x = 0 → XA M tgt ls sk w h k n Q) (K2 : x = 0 → XA M pc' ls sk w h k n Q) : XA M pc ls (vR x :: sk) w h k n Q := by
  intro p l e s m args below meth c H locs cells slots mc ms E lsM C hk hn hR hL hls
  subst hp
  rw [List.map_cons, show tr E (vR x) = rf E x from rfl]
  unfold rf
  split
  · next z => exact lv_ifnonnullN C.1 C.2.1 hd (K2 z p l e s m args below meth c H locs cells slots mc ms E lsM C hk hn hR hL hls)
  · next z => exact lv_ifnonnull C.1 C.2.1 hd ht (K1 z p l e s m args below meth c H locs cells slots mc ms E lsM C hk hn hR hL hls)
theorem s_tableIn {x v dflt lo hi off : Int} {offs : Array Int} {len tgt : Nat} (hd : decode (mC M) pc = .ok (.tableswitch dflt lo hi offs, len)) (hx : x = v) (hv : inR v) (h1 : ¬ v < lo) (h2 : ¬ hi < v) (ho : offs[(v - lo).toNat]? = some off) (ht : (pc : Int) + off = (tgt : Int)) (K : XA M tgt ls sk w h k n Q) : XA M pc ls (vI x :: sk) w h k n Q := by
  intro p l e s m args below meth c H locs cells slots mc ms E lsM C hk hn hR hL hls
  subst hx
  exact lv_tableIn C.1 C.2.1 hd (by rw [i32_t hv]; exact h1) (by rw [i32_t hv]; exact h2) (by rw [i32_t hv]; exact ho) ht (K p l e s m args below meth c H locs cells slots mc ms E lsM C hk hn hR hL hls)
theorem s_tableOut {x dflt lo hi : Int} {offs : Array Int} {len tgt : Nat} (hd : decode (mC M) pc = .ok (.tableswitch dflt lo hi offs, len)) (hv : inR x) (h1 : x < lo ∨ hi < x) (ht : (pc : Int) + dflt = (tgt : Int)) (K : XA M tgt ls sk w h k n Q) : XA M pc ls (vI x :: sk) w h k n Q := by
  intro p l e s m args below meth c H locs cells slots mc ms E lsM C hk hn hR hL hls
  exact lv_tableOut C.1 C.2.1 hd (by rw [i32_t hv]; exact h1) ht (K p l e s m args below meth c H locs cells slots mc ms E lsM C hk hn hR hL hls)
theorem s_lookup {x dflt off : Int} {ps : Array (Int × Int)} {len tgt : Nat} (hd : decode (mC M) pc = .ok (.lookupswitch dflt ps, len)) (hp : (ps.toList.zip (ps.toList.drop 1)).all (fun (a, next) => a.1 < next.1) = true) (hv : inR x) (ho : Op.lookupswitch.offset ps.toList dflt x = off) (ht : (pc : Int) + off = (tgt : Int)) (K : XA M tgt ls sk w h k n Q) : XA M pc ls (vI x :: sk) w h k n Q := by
  intro p l e s m args below meth c H locs cells slots mc ms E lsM C hk hn hR hL hls
  exact lv_lookup C.1 C.2.1 hd hp (by rw [i32_t hv]; exact ho) ht (K p l e s m args below meth c H locs cells slots mc ms E lsM C hk hn hR hL hls)
theorem s_lcmp {x y : Int} (hd : decode (mC M) pc = .ok (.lcmp, 1)) (hx : inL x) (hy : inL y) (hp : pc + 1 = pc') (K : XA M pc' ls (vI (cmpZ x y) :: sk) w h k n Q) : XA M pc ls (vL y :: vL x :: sk) w h k n Q := by
  intro p l e s m args below meth c H locs cells slots mc ms E lsM C hk hn hR hL hls
  subst hp
  have K1 := K p l e s m args below meth c H locs cells slots mc ms E lsM C hk hn hR hL hls
  rw [List.map_cons, show tr E (vI (cmpZ x y)) = .int (Int32.ofInt (cmpZ x y)) from rfl, ← cmpZ_lg hx hy] at K1
  exact W.lcmp C.1 C.2.1 hd K1
theorem s_dup2 {u v : AV} (hd : decode (mC M) pc = .ok (.dup2, 1)) (hu : ∀ x, u ≠ vL x) (hv : ∀ x, v ≠ vL x) (hp : pc + 1 = pc') (K : XA M pc' ls (u :: v :: u :: v :: sk) w h k n Q) : XA M pc ls (u :: v :: sk) w h k n Q := by
  intro p l e s m args below meth c H locs cells slots mc ms E lsM C hk hn hR hL hls
  subst hp
  exact lv_dup2_11 C.1 C.2.1 hd (tr_cat1 E hu) (tr_cat1 E hv) (K p l e s m args below meth c H locs cells slots mc ms E lsM C hk hn hR hL hls)
theorem s_iret {x : Int} (hd : decode (mC M) pc = .ok (.ireturn, 1)) (hr : mR M = some .int) (hq : Q (some (vI x)) w h) : XA M pc ls [vI x] w h k n Q := by
  intro p l e s m args below meth c H locs cells slots mc ms E lsM C hk hn hR hL hls
  refine W.widen (k := mc) (n := ms) (by omega) (by omega) ?_
  exact W.iret C.1 C.2.1 (C.2.2.1.trans hr) (fun t ht hW => ⟨some (vI x), w, h, rfl, by rw [ht]; exact hR.moved hW.alike, hq⟩) hL hd C.2.2.2.2.2.2.1
theorem s_zret {x : Int} (hd : decode (mC M) pc = .ok (.ireturn, 1)) (hr : mR M = some .boolean) (hx : x = 0 ∨ x = 1) (hq : Q (some (vI x)) w h) : XA M pc ls [vI x] w h k n Q := by
  intro p l e s m args below meth c H locs cells slots mc ms E lsM C hk hn hR hL hls
  refine W.widen (k := mc) (n := ms) (by omega) (by omega) ?_
  exact W.zret C.1 C.2.1 (C.2.2.1.trans hr) (by rcases hx with rfl | rfl <;> decide) (fun t ht hW => ⟨some (vI x), w, h, rfl, by rw [ht]; exact hR.moved hW.alike, hq⟩) hL hd C.2.2.2.2.2.2.1
theorem s_vret (hd : decode (mC M) pc = .ok (.return_, 1)) (hr : mR M = none) (hq : Q none w h) : XA M pc ls [] w h k n Q := by
  intro p l e s m args below meth c H locs cells slots mc ms E lsM C hk hn hR hL hls
  refine W.widen (k := mc) (n := ms) (by omega) (by omega) ?_
  exact W.vret C.1 C.2.1 (C.2.2.1.trans hr) (fun t ht hW => ⟨none, w, h, rfl, by rw [ht]; exact hR.moved hW.alike, hq⟩) hL hd C.2.2.2.2.2.2.1
theorem s_aret {x : Int} {rt : FieldType} (hd : decode (mC M) pc = .ok (.areturn, 1)) (hr : mR M = some rt) (hrt : ∃ nm, rt = .object nm) (hq : Q (some (vR x)) w h) : XA M pc ls [vR x] w h k n Q := by
  intro p l e s m args below meth c H locs cells slots mc ms E lsM C hk hn hR hL hls
  refine W.widen (k := mc) (n := ms) (by omega) (by omega) ?_
  exact W.aret C.1 C.2.1 (C.2.2.1.trans hr) (Or.inl hrt) (rf_or E x) (fun t ht hW => ⟨some (vR x), w, h, rfl, by rw [ht]; exact hR.moved hW.alike, hq⟩) hL hd C.2.2.2.2.2.2.1
end SA
