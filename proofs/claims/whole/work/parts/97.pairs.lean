/-! ===== both halves, call by call ===== -/
def rel (h : AH) : Prop := h 65 3 = h 3 1 ∧ (∀ i, 0 ≤ i → i < h 3 1 → h 67 i = h 4 i % 256) ∧ h 65 4 = h 2 1 ∧ h 65 5 = h 2 2
def LI (w : WS) (h : AH) (S : Int → Int) (q : HS) : Prop := invQ w h S q ∧ invM h S q ∧ rel h ∧ isQh h
/-- the answers are the same, and all stands as before -/
def PQ (w : WS) (h : AH) (x : Int) (y : Int) (h2 : AH) : Prop := x = y ∧ h2 (-1) = h (-1) ∧ ∃ S q, LI w h2 S q
section
variable {w : WS} {h h1 h2 : AH} {S S' : Int → Int} {q q' : HS}
theorem invQ_f (I : invQ w h S q) (f : ∀ b, 1 ≤ b → b ≤ 64 → h1 b = h b) : invQ w h1 S q := by
  obtain ⟨iT, iS, iC, iO, iP, iR, iH, iN, iK⟩ := id I
  exact ⟨xT_f iT (f 3 (by omega) (by omega)) (f 4 (by omega) (by omega)), xS_f iS ⟨by rw [f 1 (by omega) (by omega)], by rw [f 1 (by omega) (by omega)]⟩ (fun b b1 b2 => f b (by omega) (by omega)), xC_f iC (fun b b1 b2 => f b (by omega) (by omega)), xO_f iO (fun b b1 => f b (by omega) (by omega)), xP_f iP (fun b b1 b2 => f b (by omega) (by omega)), xR_f iR (by rw [f 1 (by omega) (by omega)]) (fun b b1 b2 => f b (by omega) (by omega)), xH_f iH (fun b b1 b2 => f b (by omega) (by omega)), iN, iK⟩
theorem invM_f (I : invM h S q) (f : ∀ b, 64 < b → h1 b = h b) : invM h1 S q := by
  refine ⟨fun j j0 j1 => by rw [f 66 (by decide)]; exact I.1 j j0 j1, ?_⟩
  unfold mH
  rw [f 65 (by decide), f 77 (by decide), f 78 (by decide), f 79 (by decide), f 80 (by decide)]
  exact I.2
theorem LI_iN (L : LI w h S q) : okS S ∧ cN S ≤ 200 := L.1.2.2.2.2.2.2.2.1
theorem LI_K (L : LI w h S q) : okHq S q := L.1.2.2.2.2.2.2.2.2
theorem LI_T (L : LI w h S q) : xT h := L.1.1
/-- behind the class's half -/
theorem LI_M (L : LI w h S q) (f : frX h h1) : invM h1 S q := invM_f L.2.1 (fun b hb => f.2.2.2 b (by omega))
theorem LI_mk (L : LI w h S q) (f : frX h h1) (I1 : invQ w h1 S' q') (lo : ∀ b, b < 65 → h2 b = h1 b) (e3 : h2 65 3 = h1 65 3) (e4 : h2 65 4 = h1 65 4) (e5 : h2 65 5 = h1 65 5) (e67 : h2 67 = h1 67) (M : invM h2 S' q') : h2 (-1) = h (-1) ∧ ∃ S q, LI w h2 S q := by
  obtain ⟨-, -, ⟨r1, r2, r3, r4⟩, Qh⟩ := L
  obtain ⟨f2, f3, f4, ff⟩ := f
  refine ⟨by rw [lo _ (by decide), ff _ (by decide)], S', q', invQ_f I1 (fun b b1 b2 => lo b (by omega)), M, ⟨?_, fun i i0 i1 => ?_, ?_, ?_⟩, ?_⟩
  · rw [e3, lo 3 (by decide), f3, ff 65 (by decide)]; exact r1
  · rw [lo 3 (by decide), f3] at i1
    rw [e67, lo 4 (by decide), f4, ff 67 (by decide)]; exact r2 i i0 i1
  · rw [e4, lo 2 (by decide), f2, ff 65 (by decide)]; exact r3
  · rw [e5, lo 2 (by decide), f2, ff 65 (by decide)]; exact r4
  · unfold isQh; rw [lo _ (by decide), ff _ (by decide)]; exact Qh
theorem LI_kM (L : LI w h S q) (f : frX h h1) (I1 : invQ w h1 S q) (k : kM h1 h2) : h2 (-1) = h (-1) ∧ ∃ S q, LI w h2 S q := LI_mk L f I1 (fun b hb => k.1 b (by omega)) (k.2 3 (by decide)) (k.2 4 (by decide)) (k.2 5 (by decide)) (k.1 67 (by decide)) (invM_k k (LI_M L f))
theorem LI_kH (L : LI w h S q) (f : frX h h1) (I1 : invQ w h1 S q') (k : kH h1 h2) (H : mH h2 q') : h2 (-1) = h (-1) ∧ ∃ S q, LI w h2 S q := LI_mk L f I1 (fun b hb => k.1 b (by omega) (by omega)) (k.2 3 (by decide)) (k.2 4 (by decide)) (k.2 5 (by decide)) (k.1 67 (by decide) (by decide)) ⟨kH_all k (LI_M L f).1, H⟩
theorem LI_st (L : LI w h S q) : h (-1) = h (-1) ∧ ∃ S q, LI w h S q := ⟨rfl, S, q, L⟩
theorem P_fault {a : Int} (sA : shA w) (L : LI w h S q) (ha : inR a) : CI mX8_fault [vR 1, vI a] w h (fun x h1 => h1 (-1) = h (-1) ∧ CI mX9_fault [vR 65, vI a] w h1 (PQ w h x)) := by
  refine (c_X8_fault sA ha).mono ?_
  rintro x h1 ⟨ex, rfl⟩
  refine ⟨by first | rfl | exact f.2.2.2 _ (by decide) | exact t4 _ (by decide) | exact f1 _ (by decide) | exact f1 _ (by decide) (by decide), (c_X9_fault sA ha).mono ?_⟩
  rintro y h2 ⟨ey, rfl⟩
  refine ⟨?_, LI_st L⟩
  rw [ex, ey, fltA, L.2.2.1.2.2.1, L.2.2.1.2.2.2]
theorem P_count {a : Int} (sA : shA w) (L : LI w h S q) (ha : inR a) : CI mX8_count [vR 1, vI a] w h (fun x h1 => h1 (-1) = h (-1) ∧ CI mX9_count [vR 65, vI a] w h1 (PQ w h x)) := by
  refine (c_X8_count sA L.1 ha).mono ?_
  rintro x h1 ⟨ex, rfl⟩
  refine ⟨by first | rfl | exact f.2.2.2 _ (by decide) | exact t4 _ (by decide) | exact f1 _ (by decide) | exact f1 _ (by decide) (by decide), (c_X9_count sA L.2.1 (LI_iN L) ha).mono ?_⟩
  rintro y h2 ⟨ey, k⟩
  exact ⟨by rw [ex, ey, L.2.2.1.1], LI_kM L (frX_rfl _) L.1 k⟩
theorem P_kind {k a : Int} (sA : shA w) (L : LI w h S q) (hk : inR k) (ha : inR a) : CI mX8_kind [vR 1, vI k, vI a] w h (fun x h1 => h1 (-1) = h (-1) ∧ CI mX9_kind [vR 65, vI k, vI a] w h1 (PQ w h x)) := by
  refine (c_X8_kind sA L.1 hk ha).mono ?_
  rintro x h1 ⟨ex, rfl⟩
  refine ⟨by first | rfl | exact f.2.2.2 _ (by decide) | exact t4 _ (by decide) | exact f1 _ (by decide) | exact f1 _ (by decide) (by decide), (c_X9_kind sA L.2.1.1 (LI_iN L).1 hk ha).mono ?_⟩
  rintro y h2 ⟨ey, rfl⟩
  exact ⟨by rw [ex, ey], LI_st L⟩
theorem P_call {k a : Int} (sA : shA w) (L : LI w h S q) (hk : inR k) (ha : inR a) : CI mX8_call [vR 1, vI k, vI a] w h (fun x h1 => h1 (-1) = h (-1) ∧ CI mX9_call [vR 65, vI k, vI a] w h1 (PQ w h x)) := by
  refine (c_X8_call sA L.1 hk ha).mono ?_
  rintro x h1 ⟨ex, rfl⟩
  refine ⟨by first | rfl | exact f.2.2.2 _ (by decide) | exact t4 _ (by decide) | exact f1 _ (by decide) | exact f1 _ (by decide) (by decide), (c_X9_call sA L.2.1.1 (LI_iN L) hk ha).mono ?_⟩
  rintro y h2 ⟨ey, k⟩
  exact ⟨by rw [ex, ey], LI_kM L (frX_rfl _) L.1 k⟩
theorem P_wakes {p : Int} (sA : shA w) (L : LI w h S q) (hp : inR p) : CI mX8_wakes [vR 1, vI p] w h (fun x h1 => h1 (-1) = h (-1) ∧ CI mX9_wakes [vR 65, vI p] w h1 (PQ w h x)) := by
  refine (c_X8_wakes sA L.1 hp).mono ?_
  rintro x h1 ⟨ex, I1, f⟩
  rcases ex with ⟨p1, ex⟩ | ⟨p1, m, t, P, _, ex⟩
  · refine ⟨by first | rfl | exact f.2.2.2 _ (by decide) | exact t4 _ (by decide) | exact f1 _ (by decide) | exact f1 _ (by decide) (by decide), (c_X9_wakesNo sA hp p1).mono ?_⟩
    rintro y h2 ⟨ey, rfl⟩
    exact ⟨by rw [ex, ey], LI_kM L f I1 (kM_rfl _)⟩
  · refine ⟨by first | rfl | exact f.2.2.2 _ (by decide) | exact t4 _ (by decide) | exact f1 _ (by decide) | exact f1 _ (by decide) (by decide), (c_X9_wakes sA (LI_M L f).1 (LI_iN L) p1 P).mono ?_⟩
    rintro y h2 ⟨ey, k⟩
    exact ⟨by rw [ex, ey], LI_kM L f I1 k⟩
theorem P_wake {p k : Int} (sA : shA w) (L : LI w h S q) (hp : inR p) (hk : inR k) : CI mX8_wake [vR 1, vI p, vI k] w h (fun x h1 => h1 (-1) = h (-1) ∧ CI mX9_wake [vR 65, vI p, vI k] w h1 (PQ w h x)) := by
  refine (c_X8_wake sA L.1 hp hk).mono ?_
  rintro x h1 ⟨ex, I1, f⟩
  rcases ex with ⟨p1, ex⟩ | ⟨p1, m, t, P, _, ex⟩
  · refine ⟨by first | rfl | exact f.2.2.2 _ (by decide) | exact t4 _ (by decide) | exact f1 _ (by decide) | exact f1 _ (by decide) (by decide), (c_X9_wakeNo sA hp p1).mono ?_⟩
    rintro y h2 ⟨ey, rfl⟩
    exact ⟨by rw [ex, ey], LI_kM L f I1 (kM_rfl _)⟩
  · refine ⟨by first | rfl | exact f.2.2.2 _ (by decide) | exact t4 _ (by decide) | exact f1 _ (by decide) | exact f1 _ (by decide) (by decide), (c_X9_wake sA (LI_M L f).1 (LI_iN L) p1 P hk).mono ?_⟩
    rintro y h2 ⟨ey, k⟩
    exact ⟨by rw [ex, ey], LI_kM L f I1 k⟩
theorem P_price {p a : Int} (sA : shA w) (L : LI w h S q) (hp : inR p) (ha : inR a) : CI mX8_price [vR 1, vI p, vI a] w h (fun x h1 => h1 (-1) = h (-1) ∧ CI mX9_price [vR 65, vI p, vI a] w h1 (PQ w h x)) := by
  refine (c_X8_price sA L.1 hp ha).mono ?_
  rintro x h1 ⟨ex, I1, f⟩
  rcases ex with ⟨p1, ex⟩ | ⟨p1, m, t, P, _, ex⟩
  · refine ⟨by first | rfl | exact f.2.2.2 _ (by decide) | exact t4 _ (by decide) | exact f1 _ (by decide) | exact f1 _ (by decide) (by decide), (c_X9_priceNo sA hp p1).mono ?_⟩
    rintro y h2 ⟨ey, rfl⟩
    exact ⟨by rw [ex, ey], LI_kM L f I1 (kM_rfl _)⟩
  · refine ⟨by first | rfl | exact f.2.2.2 _ (by decide) | exact t4 _ (by decide) | exact f1 _ (by decide) | exact f1 _ (by decide) (by decide), (c_X9_price sA (LI_M L f).1 (LI_iN L) p1 P ha).mono ?_⟩
    rintro y h2 ⟨ey, k⟩
    exact ⟨priA_one ex ey, LI_kM L f I1 k⟩
theorem P_proof {k : Int} (sA : shA w) (L : LI w h S q) (hk : inR k) : CI mX8_proof [vR 1, vI k] w h (fun x h1 => h1 (-1) = h (-1) ∧ CI mX9_proof [vR 65, vI k] w h1 (PQ w h x)) := by
  refine (c_X8_proof sA L.1 hk).mono ?_
  rintro x h1 ⟨ex, I1, f⟩
  rcases ex with ⟨p1, ex⟩ | ⟨p1, m, t, P, _, ex⟩
  · exact absurd (by omega) p1
  · refine ⟨by first | rfl | exact f.2.2.2 _ (by decide) | exact t4 _ (by decide) | exact f1 _ (by decide) | exact f1 _ (by decide) (by decide), (c_X9_proof sA (LI_M L f).1 (LI_iN L) P hk).mono ?_⟩
    rintro y h2 ⟨ey, k⟩
    exact ⟨prfA_one ex ey, LI_kM L f I1 k⟩
theorem P_answer {p k : Int} (sA : shA w) (L : LI w h S q) (hp : inR p) (hk : inR k) : CI mX8_answer [vR 1, vI p, vI k] w h (fun x h1 => h1 (-1) = h (-1) ∧ CI mX9_answer [vR 65, vI p, vI k] w h1 (PQ w h x)) := by
  refine (c_X8_answer sA L.1 hp hk).mono ?_
  rintro x h1 ⟨ex, I1, f⟩
  rcases ex with ⟨p1, ex⟩ | ⟨p1, m, t, P, _, ex⟩
  · refine ⟨by first | rfl | exact f.2.2.2 _ (by decide) | exact t4 _ (by decide) | exact f1 _ (by decide) | exact f1 _ (by decide) (by decide), (c_X9_answerNo sA hp p1).mono ?_⟩
    rintro y h2 ⟨ey, rfl⟩
    exact ⟨by rw [ex, ey], LI_kM L f I1 (kM_rfl _)⟩
  · refine ⟨by first | rfl | exact f.2.2.2 _ (by decide) | exact t4 _ (by decide) | exact f1 _ (by decide) | exact f1 _ (by decide) (by decide), (c_X9_answer sA (LI_M L f).1 (LI_iN L) p1 P hk).mono ?_⟩
    rintro y h2 ⟨ey, k⟩
    exact ⟨by rw [ex, ey], LI_kM L f I1 k⟩
theorem P_rule {r : Int} (sA : shA w) (L : LI w h S q) (hr : inR r) : CI mX8_rule [vR 1, vI r] w h (fun x h1 => h1 (-1) = h (-1) ∧ CI mX9_rule [vR 65, vI r] w h1 (PQ w h x)) := by
  refine (c_X8_rule sA L.1 hr).mono ?_
  rintro x h1 ⟨f, ex⟩
  refine ⟨by first | rfl | exact f.2.2.2 _ (by decide) | exact t4 _ (by decide) | exact f1 _ (by decide) | exact f1 _ (by decide) (by decide), (c_X9_rule sA (LI_M L f).2 (LI_K L) hr).mono ?_⟩
  rintro y h2 ⟨k, ey⟩
  rcases ex with ⟨c1, ex, I1⟩ | ⟨c1, ex, e1⟩ <;> rcases ey with ⟨c2, ey, H2⟩ | ⟨c2, ey, e2⟩
  · exact ⟨by rw [ex, ey], LI_kH L f I1 k H2⟩
  · exact absurd c1 c2
  · exact absurd c2 c1
  · exact ⟨by rw [ex, ey], by rw [e2, e1]; exact LI_st L⟩
theorem P_go {n : Int} (sA : shA w) (L : LI w h S q) (hn : inR n) : CI mX8_go [vR 1, vI n] w h (fun x h1 => h1 (-1) = h (-1) ∧ CI mX9_go [vR 65, vI n] w h1 (PQ w h x)) := by
  refine (c_X8_go sA L.1 hn).mono ?_
  rintro x h1 ⟨f, ex⟩
  refine ⟨by first | rfl | exact f.2.2.2 _ (by decide) | exact t4 _ (by decide) | exact f1 _ (by decide) | exact f1 _ (by decide) (by decide), (c_X9_go sA (LI_iN L) (LI_M L f).1 (LI_M L f).2 (LI_K L) hn).mono ?_⟩
  rintro y h2 ⟨k, ey⟩
  rcases ex with ⟨c1, ex, I1⟩ | ⟨c1, ex, e1⟩ <;> rcases ey with ⟨c2, ey, H2⟩ | ⟨c2, ey, e2⟩
  · exact ⟨by rw [ex, ey], LI_kH L f I1 k H2⟩
  · exact absurd c1 c2
  · exact absurd c2 c1
  · exact ⟨by rw [ex, ey], by rw [e2, e1]; exact LI_st L⟩
theorem P_ring {n : Int} (sA : shA w) (L : LI w h S q) (hn : inR n) : CI mX8_ring [vR 1, vI n] w h (fun x h1 => h1 (-1) = h (-1) ∧ CI mX9_ring [vR 65, vI n] w h1 (PQ w h x)) := by
  refine (c_X8_ring sA L.1 hn).mono ?_
  rintro x h1 ⟨f, ex⟩
  refine ⟨by first | rfl | exact f.2.2.2 _ (by decide) | exact t4 _ (by decide) | exact f1 _ (by decide) | exact f1 _ (by decide) (by decide), (c_X9_ring sA (LI_iN L) (LI_M L f).1 (LI_M L f).2 (LI_K L) hn).mono ?_⟩
  rintro y h2 ⟨k, ey⟩
  rcases ex with ⟨c1, ex, I1⟩ | ⟨c1, ex, e1⟩ <;> rcases ey with ⟨c2, ey, H2⟩ | ⟨c2, ey, e2⟩
  · exact ⟨by rw [ex, ey], LI_kH L f I1 k H2⟩
  · exact absurd c1 c2
  · exact absurd c2 c1
  · exact ⟨by rw [ex, ey], by rw [e2, e1]; exact LI_st L⟩
theorem P_now (sA : shA w) (L : LI w h S q) : CI mX8_now [vR 1] w h (fun x h1 => h1 (-1) = h (-1) ∧ CI mX9_now [vR 65] w h1 (PQ w h x)) := by
  refine (c_X8_now sA L.1).mono ?_
  rintro x h1 ⟨f, ex⟩
  refine ⟨by first | rfl | exact f.2.2.2 _ (by decide) | exact t4 _ (by decide) | exact f1 _ (by decide) | exact f1 _ (by decide) (by decide), (c_X9_now sA (LI_iN L).1 (LI_M L f).2 (LI_K L)).mono ?_⟩
  rintro y h2 ⟨k, ey⟩
  rcases ex with ⟨c1, ex, I1⟩ | ⟨c1, ex, e1⟩ <;> rcases ey with ⟨c2, ey, H2⟩ | ⟨c2, ey, e2⟩
  · exact ⟨by rw [ex, ey], LI_kH L f I1 k H2⟩
  · exact absurd c1 c2
  · exact absurd c2 c1
  · exact ⟨by rw [ex, ey], by rw [e2, e1]; exact LI_st L⟩
theorem P_hand {a : Int} (sA : shA w) (L : LI w h S q) (ha : inR a) : CI mX8_hand [vR 1, vI a] w h (fun x h1 => h1 (-1) = h (-1) ∧ CI mX9_hand [vR 65, vI a] w h1 (PQ w h x)) := by
  refine (c_X8_hand sA L.1 ha).mono ?_
  rintro x h1 ⟨ex, I1, f⟩
  refine ⟨by first | rfl | exact f.2.2.2 _ (by decide) | exact t4 _ (by decide) | exact f1 _ (by decide) | exact f1 _ (by decide) (by decide), (c_X9_hand sA (LI_iN L) (LI_M L f).1 (LI_M L f).2 (LI_K L) ha ex).mono ?_⟩
  rintro y h2 ⟨ey, k⟩
  exact ⟨ey.symm, LI_kM L f I1 k⟩
theorem P_round {a : Int} (sA : shA w) (L : LI w h S q) (ha : inR a) : CI mX8_round [vR 1, vI a] w h (fun x h1 => h1 (-1) = h (-1) ∧ CI mX9_round [vR 65, vI a] w h1 (PQ w h x)) := by
  refine (c_X8_round sA L.1 ha).mono ?_
  rintro x h1 ⟨ex, I1, f⟩
  refine ⟨by first | rfl | exact f.2.2.2 _ (by decide) | exact t4 _ (by decide) | exact f1 _ (by decide) | exact f1 _ (by decide) (by decide), (c_X9_round sA (LI_M L f).1 (LI_iN L).1 ha).mono ?_⟩
  rintro y h2 ⟨ey, k⟩
  exact ⟨rouA_one ex ey, LI_kM L f I1 k⟩
theorem P_roundAt {a : Int} (sA : shA w) (L : LI w h S q) (ha : inR a) : CI mX8_roundAt [vR 1, vI a] w h (fun x h1 => h1 (-1) = h (-1) ∧ CI mX9_roundAt [vR 65, vI a] w h1 (PQ w h x)) := by
  refine (c_X8_roundAt sA L.1 ha).mono ?_
  rintro x h1 ⟨ex, I1, f⟩
  refine ⟨by first | rfl | exact f.2.2.2 _ (by decide) | exact t4 _ (by decide) | exact f1 _ (by decide) | exact f1 _ (by decide) (by decide), (c_X9_roundAt sA (LI_M L f).1 (LI_iN L).1 ha).mono ?_⟩
  rintro y h2 ⟨ey, k⟩
  exact ⟨ratA_one ex ey, LI_kM L f I1 k⟩
theorem P_would {k s a : Int} (sA : shA w) (L : LI w h S q) (hk : inR k) (hs : inR s) (ha : inR a) : CI mX8_would [vR 1, vI k, vI s, vI a] w h (fun x h1 => h1 (-1) = h (-1) ∧ CI mX9_would [vR 65, vI k, vI s, vI a] w h1 (PQ w h x)) := by
  refine (c_X8_would sA L.1 hk hs ha).mono ?_
  rintro x h1 ⟨ex, I1, f⟩
  refine ⟨by first | rfl | exact f.2.2.2 _ (by decide) | exact t4 _ (by decide) | exact f1 _ (by decide) | exact f1 _ (by decide) (by decide), (c_X9_would sA (LI_M L f).1 (LI_iN L) hk hs ha ex).mono ?_⟩
  rintro y h2 ⟨ey, k⟩
  exact ⟨ey.symm, LI_kM L f I1 k⟩
theorem P_enough {k n : Int} (sA : shA w) (L : LI w h S q) (hk : inR k) (hn : inR n) : CI mX8_enough [vR 1, vI k, vI n] w h (fun x h1 => h1 (-1) = h (-1) ∧ CI mX9_enough [vR 65, vI k, vI n] w h1 (PQ w h x)) := by
  refine (c_X8_enough sA L.1 hk hn).mono ?_
  rintro x h1 ⟨ex, I1, f⟩
  refine ⟨by first | rfl | exact f.2.2.2 _ (by decide) | exact t4 _ (by decide) | exact f1 _ (by decide) | exact f1 _ (by decide) (by decide), (c_X9_enough sA (LI_M L f).1 (LI_iN L) hk hn).mono ?_⟩
  rintro y h2 ⟨ey, k⟩
  exact ⟨enoA_one (LI_iN L).1 (LI_iN L).2 ex ey, LI_kM L f I1 k⟩
theorem P_slacken {k s : Int} (sA : shA w) (L : LI w h S q) (hk : inR k) (hs : inR s) : CI mX8_slacken [vR 1, vI k, vI s] w h (fun x h1 => h1 (-1) = h (-1) ∧ CI mX9_slacken [vR 65, vI k, vI s] w h1 (PQ w h x)) := by
  refine (c_X8_slacken sA L.1 hk hs).mono ?_
  rintro x h1 ex
  rcases ex with ⟨c1, ex, I1, f⟩ | ⟨c1, ex, rfl⟩
  · refine ⟨by first | rfl | exact f.2.2.2 _ (by decide) | exact t4 _ (by decide) | exact f1 _ (by decide) | exact f1 _ (by decide) (by decide), (c_X9_slacken sA (LI_M L f).1 (LI_iN L).1 hk hs).mono ?_⟩
    rintro y h2 ey
    rcases ey with ⟨c2, ey, e2⟩ | ⟨c2, ey, e2⟩
    · refine ⟨by rw [ex, ey], LI_mk L f I1 (fun b hb => by rw [e2, st_row _ _ _ (by omega)]) (by rw [e2, st_cell _ _ _ _ (by decide)]) (by rw [e2, st_cell _ _ _ _ (by decide)]) (by rw [e2, st_cell _ _ _ _ (by decide)]) (by rw [e2, st_row _ _ _ (by decide)]) ⟨fun j j0 j1 => ?_, ?_⟩⟩
      · rw [e2]
        unfold sl
        by_cases z : j = 8 + k
        · rw [z, st_same, up_s]
        · rw [st_slot _ _ _ _ z, up_o _ _ z]; exact (LI_M L f).1 j j0 j1
      · unfold mH
        rw [e2, st_row _ _ _ (by decide), st_row _ _ _ (by decide), st_row _ _ _ (by decide), st_row _ _ _ (by decide), st_row _ _ _ (by decide)]
        exact (LI_M L f).2
    · exact absurd c1 c2
  · refine ⟨by first | rfl | exact f.2.2.2 _ (by decide) | exact t4 _ (by decide) | exact f1 _ (by decide) | exact f1 _ (by decide) (by decide), (c_X9_slacken sA L.2.1.1 (LI_iN L).1 hk hs).mono ?_⟩
    rintro y h2 ey
    rcases ey with ⟨c2, ey, e2⟩ | ⟨c2, ey, e2⟩
    · exact absurd c2 c1
    · exact ⟨by rw [ex, ey], by rw [e2]; exact LI_st L⟩
theorem P_text (sA : shA w) (L : LI w h S q) : CI mX8_text [vR 1] w h (fun x h1 => h1 (-1) = h (-1) ∧ CI mX9_text [vR 65] w h1 (PQ w h x)) := by
  have T := LI_T L
  obtain ⟨-, M, ⟨r1, r2, r3, r4⟩, Qh⟩ := id L
  refine (c_X8_text sA L.1).mono ?_
  rintro x h1 ⟨t1, t2, t3, t4, t5⟩
  have M1 : invM h1 S q := invM_f M (fun b hb => t4 b (by omega))
  refine ⟨by first | rfl | exact f.2.2.2 _ (by decide) | exact t4 _ (by decide) | exact f1 _ (by decide) | exact f1 _ (by decide) (by decide), (c_X9_text (n := h 3 1) (B := h 4) sA (by unfold isQh; rw [t4 _ (by decide)]; exact Qh) (by rw [t4 65 (by decide)]; exact r1) T.1 (fun i i0 i1 => by rw [t4 67 (by decide)]; exact r2 i i0 i1) T.2 M1).mono ?_⟩
  rintro y h2 ⟨u1, u2, u3, u4, u5⟩
  have fin : ∀ S' q', invQ w h1 S' q' → invM h2 S' q' → h2 (-1) = h (-1) ∧ ∃ S q, LI w h2 S q := by
    intro S' q' I' M'
    refine ⟨by rw [u4 _ (by decide), t4 _ (by decide)], S', q', invQ_f I' (fun b b1 b2 => u4 b (by omega)), M', ⟨?_, fun i i0 i1 => ?_, ?_, ?_⟩, ?_⟩
    · rw [u3, u4 3 (by decide), t3]
    · rw [u4 3 (by decide), t3] at i1; omega
    · rw [u1, u4 2 (by decide), t1]
    · rw [u2, u4 2 (by decide), t2]
    · unfold isQh; rw [u4 _ (by decide), t4 _ (by decide)]; exact Qh
  rcases t5 with ⟨c1, ex, I1⟩ | ⟨c1, ex, I1⟩ <;> rcases u5 with ⟨c2, ey, M2⟩ | ⟨c2, ey, M2⟩
  · exact ⟨by rw [ex, ey], fin S q I1 M2⟩
  · exact absurd c2 c1
  · exact absurd c1 c2
  · exact ⟨by rw [ex, ey], fin _ (_, _, _, _, _) I1 M2⟩
theorem P_end {k : Int} (sA : shA w) (L : LI w h S q) (hk : inR k) : CI mX8_end [vR 1, vI k] w h (fun x h1 => h1 (-1) = h (-1) ∧ CI mX9_end [vR 65, vI k] w h1 (PQ w h x)) := by
  have T := (LI_T L).1
  obtain ⟨-, M, ⟨r1, r2, r3, r4⟩, Qh⟩ := id L
  refine (c_X8_end sA L.1 hk).mono ?_
  rintro x h1 ⟨I1, ex⟩
  rcases ex with ⟨c1, ex, e1⟩ | ⟨c1, ex, rfl⟩
  · have f1 : ∀ b, b ≠ 3 → h1 b = h b := fun b hb => by rw [e1, st_row _ _ _ hb]
    have e31 : h1 3 1 = k := by rw [e1, st_same]
    refine ⟨by first | rfl | exact f.2.2.2 _ (by decide) | exact t4 _ (by decide) | exact f1 _ (by decide) | exact f1 _ (by decide) (by decide), (c_X9_end sA hk (by rw [f1 65 (by decide), r1]; exact T)).mono ?_⟩
    rintro y h2 ey
    rw [f1 65 (by decide), r1] at ey
    rcases ey with ⟨c2, ey, e2⟩ | ⟨c2, ey, e2⟩
    · have f2 : ∀ b, b ≠ 65 → h2 b = h1 b := fun b hb => by rw [e2, st_row _ _ _ hb]
      have s2 : ∀ i, i ≠ 3 → h2 65 i = h1 65 i := fun i hi => by rw [e2, st_slot _ _ _ _ hi]
      refine ⟨by rw [ex, ey], by rw [f2 _ (by decide), f1 _ (by decide)], S, q, invQ_f I1 (fun b b1 b2 => f2 b (by omega)), ⟨fun j j0 j1 => by rw [f2 66 (by decide), f1 66 (by decide)]; exact M.1 j j0 j1, ?_⟩, ⟨?_, fun i i0 i1 => ?_, ?_, ?_⟩, ?_⟩
      · unfold mH
        rw [s2 20 (by decide), s2 21 (by decide), s2 22 (by decide), s2 23 (by decide), s2 24 (by decide), s2 25 (by decide), f2 77 (by decide), f2 78 (by decide), f2 79 (by decide), f2 80 (by decide), f1 65 (by decide), f1 77 (by decide), f1 78 (by decide), f1 79 (by decide), f1 80 (by decide)]
        exact M.2
      · rw [f2 3 (by decide), e31, e2, st_same]
      · rw [f2 3 (by decide), e31] at i1
        rw [f2 67 (by decide), f1 67 (by decide), f2 4 (by decide), f1 4 (by decide)]; exact r2 i i0 (by omega)
      · rw [s2 4 (by decide), f1 65 (by decide), f2 2 (by decide), f1 2 (by decide)]; exact r3
      · rw [s2 5 (by decide), f1 65 (by decide), f2 2 (by decide), f1 2 (by decide)]; exact r4
      · unfold isQh; rw [f2 _ (by decide), f1 _ (by decide)]; exact Qh
    · exact absurd c1 c2
  · refine ⟨by first | rfl | exact f.2.2.2 _ (by decide) | exact t4 _ (by decide) | exact f1 _ (by decide) | exact f1 _ (by decide) (by decide), (c_X9_end sA hk (by rw [r1]; exact T)).mono ?_⟩
    rintro y h2 ey
    rw [r1] at ey
    rcases ey with ⟨c2, ey, e2⟩ | ⟨c2, ey, e2⟩
    · exact absurd c2 c1
    · exact ⟨by rw [ex, ey], by rw [e2]; exact LI_st L⟩
theorem P_feed {a b c d e : Int} (sA : shA w) (L : LI w h S q) : CI mX8_feed [vR 1, vI a, vI b, vI c, vI d, vI e] w h (fun x h1 => h1 (-1) = h (-1) ∧ CI mX9_feed [vR 65, vI a, vI b, vI c, vI d, vI e] w h1 (PQ w h x)) := by
  have T := (LI_T L).1
  obtain ⟨-, M, ⟨r1, r2, r3, r4⟩, Qh⟩ := id L
  refine (c_X8_feed sA L.1).mono ?_
  rintro x h1 ⟨I1, ex⟩
  rcases ex with ⟨c1, ex, t1, t2, t3, f1⟩ | ⟨c1, ex, rfl⟩
  · refine ⟨by first | rfl | exact f.2.2.2 _ (by decide) | exact t4 _ (by decide) | exact f1 _ (by decide) | exact f1 _ (by decide) (by decide), (c_X9_feed sA (by rw [f1 65 (by decide) (by decide), r1]; exact T)).mono ?_⟩
    rintro y h2 ey
    rw [f1 65 (by decide) (by decide), r1] at ey
    rcases ey with ⟨c2, ey, u1, s2, u2, u3, f2⟩ | ⟨c2, ey, e2⟩
    · refine ⟨by rw [ex, ey], by rw [f2 _ (by decide) (by decide), f1 _ (by decide) (by decide)], S, q, invQ_f I1 (fun b b1 b2 => f2 b (by omega) (by omega)), ⟨fun j j0 j1 => by rw [f2 66 (by decide) (by decide), f1 66 (by decide) (by decide)]; exact M.1 j j0 j1, ?_⟩, ⟨?_, fun i i0 i1 => ?_, ?_, ?_⟩, ?_⟩
      · unfold mH
        rw [s2 20 (by decide), s2 21 (by decide), s2 22 (by decide), s2 23 (by decide), s2 24 (by decide), s2 25 (by decide), f2 77 (by decide) (by decide), f2 78 (by decide) (by decide), f2 79 (by decide) (by decide), f2 80 (by decide) (by decide), f1 77 (by decide) (by decide), f1 78 (by decide) (by decide), f1 79 (by decide) (by decide), f1 80 (by decide) (by decide)]
        exact M.2
      · rw [f2 3 (by decide) (by decide), t1, u1]
      · rw [f2 3 (by decide) (by decide), t1] at i1
        rw [f2 4 (by decide) (by decide)]
        by_cases z : i < h 3 1
        · rw [u2 i i0 z, f1 67 (by decide) (by decide), t2 i i0 z]; exact r2 i i0 z
        · have := u3 (i - h 3 1) (by omega) (by omega)
          rw [show h 3 1 + (i - h 3 1) = i by omega] at this
          rw [this, t3 i (by omega) i1]
      · rw [s2 4 (by decide), f2 2 (by decide) (by decide), f1 2 (by decide) (by decide)]; exact r3
      · rw [s2 5 (by decide), f2 2 (by decide) (by decide), f1 2 (by decide) (by decide)]; exact r4
      · unfold isQh; rw [f2 _ (by decide) (by decide), f1 _ (by decide) (by decide)]; exact Qh
    · exact absurd c1 c2
  · refine ⟨by first | rfl | exact f.2.2.2 _ (by decide) | exact t4 _ (by decide) | exact f1 _ (by decide) | exact f1 _ (by decide) (by decide), (c_X9_feed sA (by rw [r1]; exact T)).mono ?_⟩
    rintro y h2 ey
    rw [r1] at ey
    rcases ey with ⟨c2, ey, u1, s2, u2, u3, f2⟩ | ⟨c2, ey, e2⟩
    · exact absurd c2 c1
    · exact ⟨by rw [ex, ey], by rw [e2]; exact LI_st L⟩
end
