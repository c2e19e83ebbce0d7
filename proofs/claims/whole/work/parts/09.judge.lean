/-! the judgements by what a method answers -/
theorem CA.mono {N : MI} {av : List AV} {w : WS} {h : AH} {k n : Nat} {Q Q' : Option AV → WS → AH → Prop} (H : CA N av w h k n Q) (f : ∀ r w' h', Q r w' h' → Q' r w' h') : CA N av w h k n Q' := by
  intro l E p e h1 h2 h3 s m args below h4 h5 h6 h7
  obtain ⟨j, o, g1, g2, g3, ⟨r, w', h', q1, q2, q3⟩, g5⟩ := H l E p e h1 h2 h3 s m args below h4 h5 h6 h7
  exact ⟨j, o, g1, g2, g3, ⟨r, w', h', q1, q2, f _ _ _ q3⟩, g5⟩
abbrev XI (M : MI) (pc : Nat) (ls : List (Option AV)) (sk : List AV) (w : WS) (h : AH) (Q : Int → AH → Prop) : Prop := XA M pc ls sk w h 0 0 (fun r w' h' => ∃ x, r = some (vI x) ∧ w' = w ∧ Q x h')
abbrev XR (M : MI) (pc : Nat) (ls : List (Option AV)) (sk : List AV) (w : WS) (h : AH) (Q : Int → AH → Prop) : Prop := XA M pc ls sk w h 0 0 (fun r w' h' => ∃ x, r = some (vR x) ∧ w' = w ∧ Q x h')
abbrev XV (M : MI) (pc : Nat) (ls : List (Option AV)) (sk : List AV) (w : WS) (h : AH) (Q : AH → Prop) : Prop := XA M pc ls sk w h 0 0 (fun r w' h' => r = none ∧ w' = w ∧ Q h')
def CI (N : MI) (av : List AV) (w : WS) (h : AH) (Q : Int → AH → Prop) : Prop := CA N av w h 0 0 (fun r w' h' => ∃ x, r = some (vI x) ∧ w' = w ∧ Q x h')
def CR (N : MI) (av : List AV) (w : WS) (h : AH) (Q : Int → AH → Prop) : Prop := CA N av w h 0 0 (fun r w' h' => ∃ x, r = some (vR x) ∧ w' = w ∧ Q x h')
def CV (N : MI) (av : List AV) (w : WS) (h : AH) (Q : AH → Prop) : Prop := CA N av w h 0 0 (fun r w' h' => r = none ∧ w' = w ∧ Q h')
theorem CI.mono {N : MI} {av : List AV} {w : WS} {h : AH} {Q Q' : Int → AH → Prop} (H : CI N av w h Q) (f : ∀ x h', Q x h' → Q' x h') : CI N av w h Q' := CA.mono H (fun _ _ _ ⟨x, e1, e2, q⟩ => ⟨x, e1, e2, f _ _ q⟩)
theorem CR.mono {N : MI} {av : List AV} {w : WS} {h : AH} {Q Q' : Int → AH → Prop} (H : CR N av w h Q) (f : ∀ x h', Q x h' → Q' x h') : CR N av w h Q' := CA.mono H (fun _ _ _ ⟨x, e1, e2, q⟩ => ⟨x, e1, e2, f _ _ q⟩)
theorem CV.mono {N : MI} {av : List AV} {w : WS} {h : AH} {Q Q' : AH → Prop} (H : CV N av w h Q) (f : ∀ h', Q h' → Q' h') : CV N av w h Q' := CA.mono H (fun _ _ _ ⟨e1, e2, q⟩ => ⟨e1, e2, f _ q⟩)
/-- a getter's contract, used: the answer is y, the heap stays -/
theorem CI.eq {N : MI} {av : List AV} {w : WS} {h : AH} {y : Int} {Q : Int → AH → Prop} (H : CI N av w h (fun x h' => x = y ∧ h' = h)) (q : Q y h) : CI N av w h Q := H.mono (fun x h' ⟨e1, e2⟩ => by rw [e1, e2]; exact q)
theorem CR.eq {N : MI} {av : List AV} {w : WS} {h : AH} {y : Int} {Q : Int → AH → Prop} (H : CR N av w h (fun x h' => x = y ∧ h' = h)) (q : Q y h) : CR N av w h Q := H.mono (fun x h' ⟨e1, e2⟩ => by rw [e1, e2]; exact q)
theorem CV.eq {N : MI} {av : List AV} {w : WS} {h h1 : AH} {Q : AH → Prop} (H : CV N av w h (fun h' => h' = h1)) (q : Q h1) : CV N av w h Q := H.mono (fun h' e => by rw [e]; exact q)
theorem CI.on {M N : MI} {pc' : Nat} {ls : List (Option AV)} {sk av : List AV} {w : WS} {h : AH} {Q : Int → AH → Prop} {Q' : Option AV → WS → AH → Prop} (c : CI N av w h Q) (f : ∀ x h', Q x h' → XA M pc' ls (vI x :: sk) w h' 0 0 Q') : CA N av w h 0 0 (fun r w' h' => XA M pc' ls (r.toList ++ sk) w' h' (0 - 0) (0 - 0) Q') := CA.mono c (by rintro r w' h' ⟨x, rfl, rfl, q⟩; exact f x h' q)
theorem CR.on {M N : MI} {pc' : Nat} {ls : List (Option AV)} {sk av : List AV} {w : WS} {h : AH} {Q : Int → AH → Prop} {Q' : Option AV → WS → AH → Prop} (c : CR N av w h Q) (f : ∀ x h', Q x h' → XA M pc' ls (vR x :: sk) w h' 0 0 Q') : CA N av w h 0 0 (fun r w' h' => XA M pc' ls (r.toList ++ sk) w' h' (0 - 0) (0 - 0) Q') := CA.mono c (by rintro r w' h' ⟨x, rfl, rfl, q⟩; exact f x h' q)
theorem CV.on {M N : MI} {pc' : Nat} {ls : List (Option AV)} {sk av : List AV} {w : WS} {h : AH} {Q : AH → Prop} {Q' : Option AV → WS → AH → Prop} (c : CV N av w h Q) (f : ∀ h', Q h' → XA M pc' ls sk w h' 0 0 Q') : CA N av w h 0 0 (fun r w' h' => XA M pc' ls (r.toList ++ sk) w' h' (0 - 0) (0 - 0) Q') := CA.mono c (by rintro r w' h' ⟨rfl, rfl, q⟩; exact f h' q)
theorem CI.eon {M N : MI} {pc' : Nat} {ls : List (Option AV)} {sk av : List AV} {w : WS} {h : AH} {y : Int} {Q' : Option AV → WS → AH → Prop} (c : CI N av w h (fun x h' => x = y ∧ h' = h)) (f : XA M pc' ls (vI y :: sk) w h 0 0 Q') : CA N av w h 0 0 (fun r w' h' => XA M pc' ls (r.toList ++ sk) w' h' (0 - 0) (0 - 0) Q') := CI.on c (by rintro x h' ⟨rfl, rfl⟩; exact f)
theorem CR.eon {M N : MI} {pc' : Nat} {ls : List (Option AV)} {sk av : List AV} {w : WS} {h : AH} {y : Int} {Q' : Option AV → WS → AH → Prop} (c : CR N av w h (fun x h' => x = y ∧ h' = h)) (f : XA M pc' ls (vR y :: sk) w h 0 0 Q') : CA N av w h 0 0 (fun r w' h' => XA M pc' ls (r.toList ++ sk) w' h' (0 - 0) (0 - 0) Q') := CR.on c (by rintro x h' ⟨rfl, rfl⟩; exact f)
theorem CV.eon {M N : MI} {pc' : Nat} {ls : List (Option AV)} {sk av : List AV} {w : WS} {h h1 : AH} {Q' : Option AV → WS → AH → Prop} (c : CV N av w h (fun h' => h' = h1)) (f : XA M pc' ls sk w h1 0 0 Q') : CA N av w h 0 0 (fun r w' h' => XA M pc' ls (r.toList ++ sk) w' h' (0 - 0) (0 - 0) Q') := CV.on c (by rintro h' rfl; exact f)
theorem s_drop {M : MI} {pc : Nat} {ls ls' : List (Option AV)} {sk : List AV} {w : WS} {h : AH} {k n : Nat} {Q : Option AV → WS → AH → Prop} (i : Nat) (hs : ls.set i none = ls') (K : XA M pc ls' sk w h k n Q) : XA M pc ls sk w h k n Q := by
  intro p l e s m args below meth c H locs cells slots mc ms E lsM C hk hn hR hL hls
  subst hs
  refine K p l e s m args below meth c H locs cells slots mc ms E lsM C hk hn hR hL (lv_less hls fun q hq => ?_)
  obtain ⟨j, v, h1, rfl⟩ := (lvl_mem _ 0 _).mp hq
  rw [List.getElem?_set] at h1
  split at h1
  · split at h1 <;> cases h1
  · exact (lvl_mem _ 0 _).mpr ⟨j, v, h1, rfl⟩
section SE
variable {M : MI} {pc pc' tgt : Nat} {off : Int} {ls : List (Option AV)} {sk : List AV} {w : WS} {h : AH} {k n : Nat} {Q : Option AV → WS → AH → Prop}
theorem s_ifeq_b {P : Prop} [Decidable P] (hd : decode (mC M) pc = .ok (.ifCond .eq off, 3)) (ht : (pc : Int) + off = (tgt : Int)) (hp : pc + 3 = pc') (K1 : ¬ P → XA M tgt ls sk w h k n Q) (K2 : P → XA M pc' ls sk w h k n Q) : XA M pc ls (vI (if P then 1 else 0) :: sk) w h k n Q := by
  refine s_if_eq hd ht hp (by split <;> decide) (fun c => K1 fun q => ?_) (fun c => K2 ?_)
  · rw [if_pos q] at c; omega
  · exact Decidable.byContradiction fun q => c (if_neg q)
theorem s_ifne_b {P : Prop} [Decidable P] (hd : decode (mC M) pc = .ok (.ifCond .ne off, 3)) (ht : (pc : Int) + off = (tgt : Int)) (hp : pc + 3 = pc') (K1 : P → XA M tgt ls sk w h k n Q) (K2 : ¬ P → XA M pc' ls sk w h k n Q) : XA M pc ls (vI (if P then 1 else 0) :: sk) w h k n Q := by
  refine s_if_ne hd ht hp (by split <;> decide) (fun c => K1 ?_) (fun c => K2 fun q => ?_)
  · exact Decidable.byContradiction fun q => c (if_neg q)
  · rw [if_pos q] at c; omega
end SE
theorem nar_int (E : EV) (x : Int) : narrow .int (tr E (vI x)) = tr E (vI x) ∧ fits .int (tr E (vI x)) = true := ⟨rfl, rfl⟩
theorem nar_long (E : EV) (x : Int) : narrow .long (tr E (vL x)) = tr E (vL x) ∧ fits .long (tr E (vL x)) = true := ⟨rfl, rfl⟩
theorem nar_bool (E : EV) {x : Int} (h : x = 0 ∨ x = 1) : narrow .boolean (tr E (vI x)) = tr E (vI x) ∧ fits .boolean (tr E (vI x)) = true := by
  show narrow .boolean (.int (Int32.ofInt x)) = .int (Int32.ofInt x) ∧ fits .boolean (.int (Int32.ofInt x)) = true
  rcases h with rfl | rfl <;> decide
theorem nar_ref (E : EV) (t : FieldType) (x : Int) (h : t.isReference = true) : narrow t (tr E (vR x)) = tr E (vR x) ∧ fits t (tr E (vR x)) = true := by
  rcases rf_or E x with q | ⟨a, q⟩ <;> rw [q] <;> cases t <;> first | exact ⟨rfl, rfl⟩ | cases h
theorem nar_byte {x : Int} (h : -128 ≤ x ∧ x ≤ 127) : narrow .byte (.int (Int32.ofInt x)) = .int (Int32.ofInt x) := by
  have e : (Int32.ofInt x).toInt8.toInt32 = Int32.ofInt x := by
    apply Int32.toInt_inj.mp
    rw [Int8.toInt_toInt32, Int32.toInt_toInt8, i32_t ⟨by omega, by omega⟩, Int.bmod_eq_of_le (by omega) (by omega)]
  show Value.int _ = _
  exact congrArg Value.int e
theorem zbool {x : Int} (h : x = 0 ∨ x = 1) : narrow .boolean (.int (Int32.ofInt x)) = .int (Int32.ofInt x) := by rcases h with rfl | rfl <;> decide
