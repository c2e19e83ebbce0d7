theorem andZ_r (x y : Int) : inR (andZ x y) := by
  unfold andZ
  exact ⟨Int32.minValue_le_toInt _, by have := Int32.toInt_lt (Int32.ofInt x &&& Int32.ofInt y); omega⟩
theorem law_loop {w : WS} {X : Int → Int} {nm : String} (sA : shA w) (tW : wt w (-1) = 6) (hl : wl w (-1) ≤ 3072) (hX : ∀ j, inR (X j)) : ∀ (d : Nat) (i : Int) (h : AH), 0 ≤ i → i ≤ wl w (-1) → wl w (-1) - i < 6 * d + 6 → h (-1) = X → (∃ S q, LI w h S q) → XI (mL_law nm) 18 [some (vR (-1)), some (vR 1), some (vR 65), some (vI i)] [] w h (fun x _ => x = 1) := by
  intro d
  induction d with
  | zero =>
    intro i h i0 i1 hd e L
    exact r_L_law_18 sA ⟨tW, by omega, by omega, fun _ => rfl, fun c => absurd c (by omega)⟩
  | succ d ih =>
    intro i h i0 i1 hd e L
    obtain ⟨S, q, L⟩ := L
    have hv : ∀ j, inR (h (-1) j) := fun j => by rw [e]; exact hX j
    refine r_L_law_18 sA ⟨tW, by omega, by omega, fun _ => rfl, fun c => ⟨i0, by omega, andZ_r _ _, ?_⟩⟩
    have nxt : ∀ (x y : Int) (h2 : AH), PQ w h x y h2 → x = y ∧ XI (mL_law nm) 18 [some (vR (-1)), some (vR 1), some (vR 65), some (vI (i + 6))] [] w h2 (fun x _ => x = 1) := fun x y h2 P => ⟨P.1, ih (i + 6) h2 (by omega) (by omega) (by omega) (P.2.1.trans e) P.2.2⟩
    exact ⟨fun _ => ⟨by omega, by omega, ⟨by omega, by omega, ⟨by omega, by omega, ⟨by omega, by omega, ⟨by omega, by omega, (P_feed sA L ).mono (fun x h1 z => by rw [z.1]; exact z.2.mono (fun y h2 P => nxt x y h2 P))⟩⟩⟩⟩⟩,
      fun _ => ⟨by omega, by omega, (P_end sA L (hv _)).mono (fun x h1 z => by rw [z.1]; exact z.2.mono (fun y h2 P => nxt x y h2 P))⟩,
      fun _ => (P_text sA L).mono (fun x h1 z => z.2.mono (fun y h2 P => nxt x y h2 P)),
      fun _ => ⟨by omega, by omega, (P_fault sA L (hv _)).mono (fun x h1 z => by rw [z.1]; exact z.2.mono (fun y h2 P => nxt x y h2 P))⟩,
      fun _ => ⟨by omega, by omega, (P_count sA L (hv _)).mono (fun x h1 z => by rw [z.1]; exact z.2.mono (fun y h2 P => nxt x y h2 P))⟩,
      fun _ => ⟨by omega, by omega, ⟨by omega, by omega, (P_kind sA L (hv _) (hv _)).mono (fun x h1 z => by rw [z.1]; exact z.2.mono (fun y h2 P => nxt x y h2 P))⟩⟩,
      fun _ => ⟨by omega, by omega, ⟨by omega, by omega, (P_slacken sA L (hv _) (hv _)).mono (fun x h1 z => by rw [z.1]; exact z.2.mono (fun y h2 P => nxt x y h2 P))⟩⟩,
      fun _ => ⟨by omega, by omega, ⟨by omega, by omega, (P_call sA L (hv _) (hv _)).mono (fun x h1 z => by rw [z.1]; exact z.2.mono (fun y h2 P => nxt x y h2 P))⟩⟩,
      fun _ => ⟨by omega, by omega, (P_wakes sA L (hv _)).mono (fun x h1 z => by rw [z.1]; exact z.2.mono (fun y h2 P => nxt x y h2 P))⟩,
      fun _ => ⟨by omega, by omega, ⟨by omega, by omega, (P_wake sA L (hv _) (hv _)).mono (fun x h1 z => by rw [z.1]; exact z.2.mono (fun y h2 P => nxt x y h2 P))⟩⟩,
      fun _ => ⟨by omega, by omega, ⟨by omega, by omega, (P_price sA L (hv _) (hv _)).mono (fun x h1 z => by rw [z.1]; exact z.2.mono (fun y h2 P => nxt x y h2 P))⟩⟩,
      fun _ => ⟨by omega, by omega, (P_proof sA L (hv _)).mono (fun x h1 z => by rw [z.1]; exact z.2.mono (fun y h2 P => nxt x y h2 P))⟩,
      fun _ => ⟨by omega, by omega, ⟨by omega, by omega, (P_answer sA L (hv _) (hv _)).mono (fun x h1 z => by rw [z.1]; exact z.2.mono (fun y h2 P => nxt x y h2 P))⟩⟩,
      fun _ => ⟨by omega, by omega, (P_rule sA L (hv _)).mono (fun x h1 z => by rw [z.1]; exact z.2.mono (fun y h2 P => nxt x y h2 P))⟩,
      fun _ => ⟨by omega, by omega, (P_go sA L (hv _)).mono (fun x h1 z => by rw [z.1]; exact z.2.mono (fun y h2 P => nxt x y h2 P))⟩,
      fun _ => ⟨by omega, by omega, (P_ring sA L (hv _)).mono (fun x h1 z => by rw [z.1]; exact z.2.mono (fun y h2 P => nxt x y h2 P))⟩,
      fun _ => (P_now sA L).mono (fun x h1 z => z.2.mono (fun y h2 P => nxt x y h2 P)),
      fun _ => ⟨by omega, by omega, (P_hand sA L (hv _)).mono (fun x h1 z => by rw [z.1]; exact z.2.mono (fun y h2 P => nxt x y h2 P))⟩,
      fun _ => ⟨by omega, by omega, (P_round sA L (hv _)).mono (fun x h1 z => by rw [z.1]; exact z.2.mono (fun y h2 P => nxt x y h2 P))⟩,
      fun _ => ⟨by omega, by omega, (P_roundAt sA L (hv _)).mono (fun x h1 z => by rw [z.1]; exact z.2.mono (fun y h2 P => nxt x y h2 P))⟩,
      fun _ => ⟨by omega, by omega, ⟨by omega, by omega, ⟨by omega, by omega, (P_would sA L (hv _) (hv _) (hv _)).mono (fun x h1 z => by rw [z.1]; exact z.2.mono (fun y h2 P => nxt x y h2 P))⟩⟩⟩,
      fun _ => ⟨by omega, by omega, ⟨by omega, by omega, (P_enough sA L (hv _) (hv _)).mono (fun x h1 z => by rw [z.1]; exact z.2.mono (fun y h2 P => nxt x y h2 P))⟩⟩,
      fun _ => ih (i + 6) h (by omega) (by omega) (by omega) e ⟨S, q, L⟩⟩
