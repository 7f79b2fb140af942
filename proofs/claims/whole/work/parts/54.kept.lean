/-! ===== pure: undone, images, the trace ===== -/
theorem sim_undo {N : Nat} (hN : 400 ≤ N) : Sim_undo N Inv := by
  intro d m hI
  obtain ⟨hT, hK, hB, v, hV, hS, hP, hIm, hH⟩ := id hI
  obtain ⟨u, hu, u1, u2, u3⟩ := hP
  unfold fX11_undo fX12_undo
  rw [u1, u2]
  by_cases h0 : u = 0
  · subst h0
    rw [if_pos (show nI 0 = (0 : Int32) from rfl), if_pos (show nI 0 = (0 : Int32) from rfl)]
    exact ⟨_, _, rfl, rfl, rfl, hT, hK, hB, v, hV, hS, ⟨0, by omega, rfl, rfl, u3⟩, hIm, hH⟩
  · obtain ⟨w, rfl⟩ : ∃ w, u = w + 1 := ⟨u - 1, by omega⟩
    have hne : ¬ nI (w + 1) = (0 : Int32) := nI_ne (a := w + 1) (b := 0) (by omega) (by omega) h0
    have hm1 : nI (w + 1) - (1 : Int32) = nI w := nI_pred w
    rw [if_neg hne, if_neg hne]
    unfold fX6_popInto
    rw [if_pos (show (0 : Int32) < nI (w + 1) from nI_lt (a := 0) (b := w + 1) (by omega) (by omega))]
    simp only [lti_eq, hm1]
    rw [rdx_at (j := w) rfl (show w < 10 by omega) (by omega)]
    obtain ⟨c', e1, -, e3⟩ := copy_ok (dS d).2.2.2.2.2.2.1 (dS d).2.2.2.2.2.2.2.1 (dS d).2.2.2.2.2.2.2.2.1 (dS d).2.2.2.2.2.2.2.2.2.1 (dS d).2.2.2.2.2.2.2.2.2.2 ((dP d).2 w)
    rw [e1]
    simp only [ob_some]
    rw [show (0 : Int32) = nI 0 from rfl, undo_cp (by omega) 35 0 _ N (by omega) (by omega)]
    refine ⟨_, _, rfl, rfl, rfl, hT, hK, hB, v, hV, ?_, ⟨w, by omega, rfl, rfl, fun j hj => u3 j (by omega)⟩, hIm, hH⟩
    refine Rel.congr (fun i hi => ?_) (e3 _ _ (u3 w (by omega)))
    show (if 0 + 0 ≤ i ∧ i < 0 + 35 then m_undos m (35 * w + (i - 0)) else m_s m i) = m_undos m (35 * w + i)
    rw [if_pos (by omega)]
    rfl
theorem bool1 : vp_nar .boolean 1 = 1 := rfl
theorem sim_keep {N : Nat} (hN : 400 ≤ N) : Sim_keep N Inv := by
  intro d m a1 hI
  obtain ⟨hT, hK, hB, v, hV, hS, hP, ⟨k1, k2, k3⟩, hH⟩ := id hI
  have hs0 : (dS d).1 = m_s m 0 := by
    obtain ⟨a, -, hC, hF⟩ := hS
    exact hC.1.trans hF.1.symm
  unfold fX11_keep fX12_keep
  rcases rngL a1 1 1 rfl (by omega) with ⟨e1, e2, i, hi, rfl⟩ | ⟨e1, e2, -⟩
  · simp only [e1, e2, ob_some, if_neg ne10]
    rw [show (0 : Int32) = nI 0 from rfl, keep_cp (by omega) 35 0 _ N (by omega) (by omega)]
    rcases (show i = 0 ∨ i = 1 by omega) with rfl | rfl
    · rw [if_pos rfl]
      obtain ⟨c', q1, -, q3⟩ := copy_ok (dI d).2.2.2.2.2.2.1 (dI d).2.2.2.2.2.2.2.1 (dI d).2.2.2.2.2.2.2.2.1 (dI d).2.2.2.2.2.2.2.2.2.1 (dI d).2.2.2.2.2.2.2.2.2.2 (dS d)
      rw [q1]
      simp only [ob_some, wri_at (j := 0) rfl (by omega : (0 : Nat) < 2) (by omega : (2 : Nat) < 2 ^ 31), bool1]
      refine ⟨_, _, rfl, rfl, hs0, hT, hK, hB, v, hV, hS, hP, ⟨fun j hj => ?_, fun _ => ?_, fun h => ?_⟩, hH⟩
      · show upd _ 0 1 j = upd _ 0 1 j ∧ (upd _ 0 1 j = 0 ∨ upd _ 0 1 j = 1)
        by_cases h : j = 0
        · simp only [upd_eq h]
          exact ⟨trivial, Or.inr trivial⟩
        · simp only [upd_ne h]
          exact k1 j hj
      · refine Rel.congr (fun j hj => ?_) (q3 _ _ hS)
        show (if 35 * 0 + 0 ≤ j ∧ j < 35 * 0 + 35 then m_s m (0 + (j - 35 * 0)) else m_kept m j) = m_s m j
        rw [if_pos (by omega)]
        congr 1
        omega
      · have h' : dKept d 1 = 1 := by
          have : upd (dKept d) 0 1 1 = 1 := h
          rw [upd_ne (by omega)] at this
          exact this
        refine Rel.congr (fun j hj => ?_) (k3 h')
        show (if 35 * 0 + 0 ≤ 35 + j ∧ 35 + j < 35 * 0 + 35 then m_s m (0 + (35 + j - 35 * 0)) else m_kept m (35 + j)) = m_kept m (35 + j)
        rw [if_neg (by omega)]
    · rw [if_neg (show ¬ nI 1 = nI 0 by decide), if_pos (show nI 1 = (1 : Int32) from rfl)]
      obtain ⟨c', q1, -, q3⟩ := copy_ok (dJ d).2.2.2.2.2.2.1 (dJ d).2.2.2.2.2.2.2.1 (dJ d).2.2.2.2.2.2.2.2.1 (dJ d).2.2.2.2.2.2.2.2.2.1 (dJ d).2.2.2.2.2.2.2.2.2.2 (dS d)
      rw [q1]
      simp only [ob_some, wri_at (j := 1) rfl (by omega : (1 : Nat) < 2) (by omega : (2 : Nat) < 2 ^ 31), bool1]
      refine ⟨_, _, rfl, rfl, hs0, hT, hK, hB, v, hV, hS, hP, ⟨fun j hj => ?_, fun h => ?_, fun _ => ?_⟩, hH⟩
      · show upd _ 1 1 j = upd _ 1 1 j ∧ (upd _ 1 1 j = 0 ∨ upd _ 1 1 j = 1)
        by_cases h : j = 1
        · simp only [upd_eq h]
          exact ⟨trivial, Or.inr trivial⟩
        · simp only [upd_ne h]
          exact k1 j hj
      · have h' : dKept d 0 = 1 := by
          have : upd (dKept d) 1 1 0 = 1 := h
          rw [upd_ne (by omega)] at this
          exact this
        refine Rel.congr (fun j hj => ?_) (k2 h')
        show (if 35 * 1 + 0 ≤ j ∧ j < 35 * 1 + 35 then m_s m (0 + (j - 35 * 1)) else m_kept m j) = m_kept m j
        rw [if_neg (by omega)]
      · refine Rel.congr (fun j hj => ?_) (q3 _ _ hS)
        show (if 35 * 1 + 0 ≤ 35 + j ∧ 35 + j < 35 * 1 + 35 then m_s m (0 + (35 + j - 35 * 1)) else m_kept m (35 + j)) = m_s m j
        rw [if_pos (by omega)]
        congr 1
        omega
  · simp only [e1, e2, ob_some, if_true]
    exact ⟨_, _, rfl, rfl, rfl, hI⟩
theorem sim_back {N : Nat} (hN : 400 ≤ N) : Sim_back N Inv := by
  intro d m a1 hI
  obtain ⟨hT, hK, hB, v, hV, hS, hP, ⟨k1, k2, k3⟩, hH⟩ := id hI
  unfold fX11_back fX12_back
  rcases rngL a1 1 1 rfl (by omega) with ⟨e1, e2, i, hi, rfl⟩ | ⟨e1, e2, -⟩
  · obtain ⟨h1, h2⟩ := k1 i (by omega)
    simp only [e1, e2, ob_some, if_neg ne10, rdi_at (j := i) rfl (show i < 2 by omega) (by omega : (2 : Nat) < 2 ^ 31), ← h1]
    rcases h2 with h2 | h2
    · simp only [h2, if_true]
      exact ⟨_, _, rfl, rfl, rfl, hI⟩
    · simp only [h2, if_neg ne10]
      rw [show (0 : Int32) = nI 0 from rfl, back_cp (by omega) 35 0 _ N (by omega) (by omega)]
      rcases (show i = 0 ∨ i = 1 by omega) with rfl | rfl
      · rw [if_pos rfl]
        obtain ⟨c', q1, q2, q3⟩ := copy_ok (dS d).2.2.2.2.2.2.1 (dS d).2.2.2.2.2.2.2.1 (dS d).2.2.2.2.2.2.2.2.1 (dS d).2.2.2.2.2.2.2.2.2.1 (dS d).2.2.2.2.2.2.2.2.2.2 (dI d)
        rw [q1]
        simp only [ob_some]
        have hR : Rel (vN v) c' (fun j => if 0 + 0 ≤ j ∧ j < 0 + 35 then m_kept m (35 * 0 + (j - 0)) else m_s m j) := by
          refine Rel.congr (fun j hj => ?_) (q3 _ _ (k2 h2))
          rw [if_pos (by omega)]
          congr 1
          omega
        refine ⟨_, _, rfl, rfl, ?_, hT, hK, hB, v, hV, hR, ⟨0, by omega, rfl, rfl, fun j h => by omega⟩, ⟨k1, k2, k3⟩, hH⟩
        obtain ⟨a, -, hC, hF⟩ := hR
        exact hC.1.trans hF.1.symm
      · rw [if_neg (show ¬ nI 1 = nI 0 by decide), if_pos (show nI 1 = (1 : Int32) from rfl)]
        obtain ⟨c', q1, q2, q3⟩ := copy_ok (dS d).2.2.2.2.2.2.1 (dS d).2.2.2.2.2.2.2.1 (dS d).2.2.2.2.2.2.2.2.1 (dS d).2.2.2.2.2.2.2.2.2.1 (dS d).2.2.2.2.2.2.2.2.2.2 (dJ d)
        rw [q1]
        simp only [ob_some]
        have hR : Rel (vN v) c' (fun j => if 0 + 0 ≤ j ∧ j < 0 + 35 then m_kept m (35 * 1 + (j - 0)) else m_s m j) := by
          refine Rel.congr (fun j hj => ?_) (q3 _ _ (k3 h2))
          rw [if_pos (by omega)]
          congr 1
        refine ⟨_, _, rfl, rfl, ?_, hT, hK, hB, v, hV, hR, ⟨0, by omega, rfl, rfl, fun j h => by omega⟩, ⟨k1, k2, k3⟩, hH⟩
        obtain ⟨a, -, hC, hF⟩ := hR
        exact hC.1.trans hF.1.symm
  · simp only [e1, e2, ob_some, if_true]
    exact ⟨_, _, rfl, rfl, rfl, hI⟩
theorem trace_st (a b c d e f : Int64) (K : Int64 → Option Int64) (n : Nat) (l : Int64) :
    fX11_trace_L4 a b c d e f K (n + 1) l 0 = fX11_trace_L4 a b c d e f K n (l + a) 1 ∧
    fX11_trace_L4 a b c d e f K (n + 1) l 1 = fX11_trace_L4 a b c d e f K n (l + b) 2 ∧
    fX11_trace_L4 a b c d e f K (n + 1) l 2 = fX11_trace_L4 a b c d e f K n (l + c) 3 ∧
    fX11_trace_L4 a b c d e f K (n + 1) l 3 = fX11_trace_L4 a b c d e f K n (l + d) 4 ∧
    fX11_trace_L4 a b c d e f K (n + 1) l 4 = fX11_trace_L4 a b c d e f K n (l + e) 5 ∧
    fX11_trace_L4 a b c d e f K (n + 1) l 5 = fX11_trace_L4 a b c d e f K n (l + f) 6 ∧
    fX11_trace_L4 a b c d e f K (n + 1) l 6 = K l := ⟨rfl, rfl, rfl, rfl, rfl, rfl, rfl⟩
theorem sim_trace {N : Nat} (hN : 400 ≤ N) : Sim_trace N Inv := by
  intro d m hI
  obtain ⟨n, rfl⟩ : ∃ n, N = n + 1 + 1 + 1 + 1 + 1 + 1 + 1 := ⟨N - 7, by omega⟩
  have hK := hI.2.1
  unfold fX11_trace fX12_trace
  rw [(trace_st _ _ _ _ _ _ _ _ _).1, (trace_st _ _ _ _ _ _ _ _ _).2.1, (trace_st _ _ _ _ _ _ _ _ _).2.2.1, (trace_st _ _ _ _ _ _ _ _ _).2.2.2.1, (trace_st _ _ _ _ _ _ _ _ _).2.2.2.2.1, (trace_st _ _ _ _ _ _ _ _ _).2.2.2.2.2.1, (trace_st _ _ _ _ _ _ _ _ _).2.2.2.2.2.2]
  refine ⟨_, _, rfl, rfl, ?_, hI⟩
  unfold InvK at hK
  show (0 : Int64) + _ + _ + _ + _ + _ + _ = m_trace m
  rw [← hK, Int64.zero_add]
