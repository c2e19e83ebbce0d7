/-! ===== making: what a new cell, a final reference, a constructor leave ===== -/
def nw (w : WS) (h : AH) (w' : WS) (h' : AH) (d : Int) (kd n : Nat) : Prop := (w'.1 : Int) = d ∧ wt w' d = kd ∧ wn w' d = n ∧ (∀ i, wf w' d i = 0) ∧ (∀ i, h' d i = 0) ∧ (∀ b, b ≠ d → wt w' b = wt w b) ∧ (∀ b, b ≠ d → wn w' b = wn w b) ∧ (∀ b i, b ≠ d → wf w' b i = wf w b i) ∧ (∀ b i, b ≠ d → h' b i = h b i)
def fn (w w' : WS) (a i x : Int) : Prop := w'.1 = w.1 ∧ (∀ b, wt w' b = wt w b) ∧ (∀ b, wn w' b = wn w b) ∧ wf w' a i = x ∧ (∀ b j, (b ≠ a ∨ j ≠ i) → wf w' b j = wf w b j)
def ex (w : WS) (h : AH) (w' : WS) (h' : AH) (lo hi : Int) : Prop := (w'.1 : Int) = hi ∧ (∀ b, (b < lo ∨ hi < b) → wt w' b = wt w b) ∧ (∀ b, (b < lo ∨ hi < b) → wn w' b = wn w b) ∧ (∀ b i, (b < lo ∨ hi < b) → wf w' b i = wf w b i) ∧ (∀ b i, (b < lo ∨ hi < b) → h' b i = h b i)
def sn (h h' : AH) (a i x : Int) : Prop := h' a i = x ∧ (∀ b j, (b ≠ a ∨ j ≠ i) → h' b j = h b j)
theorem sn_st (h : AH) (a i x : Int) : sn h (st h a i x) a i x := ⟨st_same _ _ _ _, fun b j hb => by
  by_cases e : b = a
  · subst e; exact st_slot _ _ _ _ (by omega)
  · exact st_cell _ _ _ _ e⟩
theorem nw_New {w : WS} {h : AH} {d : Int} {kd n : Nat} (e : (w.1 : Int) + 1 = d) : nw w h (wNew w kd n) (hNew w h) d kd n := by
  subst e
  refine ⟨rfl, wNew_t _ _ _, wNew_n _ _ _, fun i => by simp [wf, wNew], fun i => by simp [hNew], fun b hb => by simp [wt, wNew, hb], fun b hb => by simp [wn, wNew, hb], fun b i hb => by simp [wf, wNew, hb], fun b i hb => by simp [hNew, hb]⟩
theorem fn_Fin (w : WS) (a i x : Int) : fn w (wFin w a i x) a i x := by
  refine ⟨rfl, fun _ => rfl, fun _ => rfl, st_same _ _ _ _, fun b j hb => ?_⟩
  show st w.2.2 a i x b j = w.2.2 b j
  exact (sn_st w.2.2 a i x).2 b j hb
theorem ex_new {w w1 w2 : WS} {h h1 h2 : AH} {a hi : Int} {kd n : Nat} (N : nw w h w1 h1 a kd n) (X : ex w1 h1 w2 h2 a hi) : a ≤ hi → ex w h w2 h2 a hi := fun hh => ⟨X.1, fun b hb => by rw [X.2.1 b hb]; exact N.2.2.2.2.2.1 b (by omega), fun b hb => by rw [X.2.2.1 b hb]; exact N.2.2.2.2.2.2.1 b (by omega), fun b i hb => by rw [X.2.2.2.1 b i hb]; exact N.2.2.2.2.2.2.2.1 b i (by omega), fun b i hb => by rw [X.2.2.2.2 b i hb]; exact N.2.2.2.2.2.2.2.2 b i (by omega)⟩
section
variable {M : MI} {pc pc' : Nat} {ls : List (Option AV)} {sk : List AV} {w : WS} {h : AH} {k n : Nat} {Q : Option AV → WS → AH → Prop}
theorem t_new {kc N idx : Nat} {Cn : String} {d : Int} (hd : decode (mC M) pc = .ok (.new idx, 3)) (hc : clsI kc Cn N) (hl : Cond.classLink (mO M) idx Cn ∈ lw_g) (hins : Cond.instantiable Cn N ∈ lw_g) (hini : Cond.initialized Cn ∈ lw_g) (hfd : ∀ i, i < N → tyC kc i ≠ .float ∧ tyC kc i ≠ .double) (hp : pc + 3 = pc') (hw : (w.1 : Int) + 1 = d) (K : ∀ w' h', nw w h w' h' d (10 + kc) 0 → XA M pc' ls (vR d :: sk) w' h' k n Q) : XA M pc ls sk w h (k + 1) (n + N) Q :=
  s_new hd hc hl hins hini hfd hp (by have := K _ _ (nw_New hw); rw [← hw] at this; exact this)
theorem t_newi {x : Int} {L : Nat} {d : Int} (hd : decode (mC M) pc = .ok (.newarray .int, 2)) (hx : x = (L : Int)) (hL : L ≤ 1000) (hp : pc + 2 = pc') (hw : (w.1 : Int) + 1 = d) (K : ∀ w' h', nw w h w' h' d 1 L → XA M pc' ls (vR d :: sk) w' h' k n Q) : XA M pc ls (vI x :: sk) w h (k + 1) (n + L) Q :=
  s_newa_int hd ca_int (by omega) (by omega) (by omega) hp (by have := K _ _ (nw_New hw); rw [← hw] at this; rw [show x.toNat = L by omega, Nat.add_sub_cancel]; exact this)
theorem t_newb {x : Int} {L : Nat} {d : Int} (hd : decode (mC M) pc = .ok (.newarray .byte, 2)) (hx : x = (L : Int)) (hL : L ≤ 1000) (hp : pc + 2 = pc') (hw : (w.1 : Int) + 1 = d) (K : ∀ w' h', nw w h w' h' d 2 L → XA M pc' ls (vR d :: sk) w' h' k n Q) : XA M pc ls (vI x :: sk) w h (k + 1) (n + L) Q :=
  s_newa_byte hd ca_byte (by omega) (by omega) (by omega) hp (by have := K _ _ (nw_New hw); rw [← hw] at this; rw [show x.toNat = L by omega, Nat.add_sub_cancel]; exact this)
theorem t_newz {x : Int} {L : Nat} {d : Int} (hd : decode (mC M) pc = .ok (.newarray .boolean, 2)) (hx : x = (L : Int)) (hL : L ≤ 1000) (hp : pc + 2 = pc') (hw : (w.1 : Int) + 1 = d) (K : ∀ w' h', nw w h w' h' d 3 L → XA M pc' ls (vR d :: sk) w' h' k n Q) : XA M pc ls (vI x :: sk) w h (k + 1) (n + L) Q :=
  s_newa_bool hd ca_boolean (by omega) (by omega) (by omega) hp (by have := K _ _ (nw_New hw); rw [← hw] at this; rw [show x.toNat = L by omega, Nat.add_sub_cancel]; exact this)
theorem t_newl {x : Int} {L : Nat} {d : Int} (hd : decode (mC M) pc = .ok (.newarray .long, 2)) (hx : x = (L : Int)) (hL : L ≤ 1000) (hp : pc + 2 = pc') (hw : (w.1 : Int) + 1 = d) (K : ∀ w' h', nw w h w' h' d 4 L → XA M pc' ls (vR d :: sk) w' h' k n Q) : XA M pc ls (vI x :: sk) w h (k + 1) (n + L) Q :=
  s_newa_long hd ca_long (by omega) (by omega) (by omega) hp (by have := K _ _ (nw_New hw); rw [← hw] at this; rw [show x.toNat = L by omega, Nat.add_sub_cancel]; exact this)
theorem t_anew {x : Int} {L idx : Nat} {d : Int} (hd : decode (mC M) pc = .ok (.anewarray idx, 3)) (hl : Cond.classLink (mO M) idx RX7 ∈ lw_g) (hx : x = (L : Int)) (hL : L ≤ 1000) (hp : pc + 3 = pc') (hw : (w.1 : Int) + 1 = d) (K : ∀ w' h', nw w h w' h' d 5 L → XA M pc' ls (vR d :: sk) w' h' k n Q) : XA M pc ls (vI x :: sk) w h (k + 1) (n + L) Q :=
  s_anew hd hl (by omega) (by omega) (by omega) hp (by have := K _ _ (nw_New hw); rw [← hw] at this; rw [show x.toNat = L by omega, Nat.add_sub_cancel]; exact this)
theorem t_putF {kc i N idx : Nat} {a x : Int} {j : Int} (hd : decode (mC M) pc = .ok (.putfield idx, 3)) (hc : clsI kc (mO M) N) (hi : i < N) (hl : Cond.fieldLink (mO M) idx (TC kc i).1 (TC kc i).2.1 (TC kc i).2.2.1 ∈ lw_g) (hf : (TC kc i).2.2.2 = true) (hin : (mY M).name = "<init>") (hdecl : (TC kc i).1 = mO M) (ha : wt w a = 10 + kc) (hn1 : ∀ E, narrow (tyC kc i) (tr E (vR x)) = tr E (vR x) ∧ fits (tyC kc i) (tr E (vR x)) = true) (hv : ∀ E y, fvv E (tyC kc i) true y x = tr E (vR x)) (hp : pc + 3 = pc') (hj : ((i : Nat) : Int) = j) (K : ∀ w', fn w w' a j x → XA M pc' ls sk w' h k n Q) : XA M pc ls (vR x :: vR a :: sk) w h k n Q :=
  s_putF hd hc hi hl hf hin hdecl ha hn1 hv hp (by have := K _ (fn_Fin w a j x); rw [← hj] at this; exact this)
end
theorem fdX0 : ∀ i, i < 5 → tyC 0 i ≠ .float ∧ tyC 0 i ≠ .double := by decide
theorem fdX1 : ∀ i, i < 11 → tyC 1 i ≠ .float ∧ tyC 1 i ≠ .double := by decide
theorem fdX2 : ∀ i, i < 3 → tyC 2 i ≠ .float ∧ tyC 2 i ≠ .double := by decide
theorem fdX3 : ∀ i, i < 3 → tyC 3 i ≠ .float ∧ tyC 3 i ≠ .double := by decide
theorem fdX4 : ∀ i, i < 6 → tyC 4 i ≠ .float ∧ tyC 4 i ≠ .double := by decide
theorem fdX5 : ∀ i, i < 12 → tyC 5 i ≠ .float ∧ tyC 5 i ≠ .double := by decide
theorem fdX6 : ∀ i, i < 6 → tyC 6 i ≠ .float ∧ tyC 6 i ≠ .double := by decide
theorem fdX7 : ∀ i, i < 2 → tyC 7 i ≠ .float ∧ tyC 7 i ≠ .double := by decide
theorem fdX8 : ∀ i, i < 14 → tyC 8 i ≠ .float ∧ tyC 8 i ≠ .double := by decide
theorem fdX9 : ∀ i, i < 39 → tyC 9 i ≠ .float ∧ tyC 9 i ≠ .double := by decide
