/-! ===== pure: ends, round, fastest ===== -/
theorem ends0 {H : Nat → Nat → Nat} {S : Nat → Nat} {x : Nat} : (∃ k, Ends H S 0 x k ∧ k ≠ 0) → False := fun ⟨k, h, h0⟩ => by
  obtain ⟨y, e, -⟩ := go_back (h.2.1 0 (by omega)) (h.2.1 1 (by omega))
  obtain ⟨y1, -⟩ := nx_lt e
  exact absurd y1 (Nat.not_lt_zero _)
theorem rnd0 {H : Nat → Nat → Nat} {S : Nat → Nat} {x i k : Nat} (h : Rnd H S 0 x i k) : False := by
  obtain ⟨h1, h2, h3, -⟩ := h
  obtain ⟨y, e, -⟩ := go_back (h3 0 (by omega)) (h3 1 (by omega))
  obtain ⟨y1, -⟩ := nx_lt e
  exact absurd y1 (Nat.not_lt_zero _)
theorem sim_ends {N : Nat} (hN : 400 ≤ N) : Sim_ends N Inv := by
  intro d m hI
  obtain ⟨hT, hK, hB, v, hV, hS, hP, hIm, hH⟩ := id hI
  have hV' := hV
  obtain ⟨hOk, n1, n2, -⟩ := hV'
  have hn := hOk.1
  obtain ⟨a, hA, hC, hF⟩ := hS
  obtain ⟨w, w1, w2⟩ := asNow_ok hN (m_s m) (m_w m)
  have hw := mkWk hA (hF.congr hA.2.2.2.2.1 w2)
  have hP' : aP a < 6 := by rcases hA.2.2.1 with h | h <;> omega
  have hCp : (dS d).2.2.1 = nI (aP a) := hC.2.2.1
  obtain ⟨D, gap', hear', next', slow', hD, hB', q1, q2, q3, q4⟩ := now_lay (N := N) (by omega) hV hA hC ((dC d).2.2.2.2.2.2.2.2.1) ((dC d).2.2.2.2.2.2.2.2.2.1) ((dC d).2.2.2.2.2.2.2.2.2.2.2.2.1) ((dC d).2.2.2.2.2.2.2.2.2.2.2.2.2)
  unfold fX11_ends fX12_ends fX11_ends_33
  rw [w1, q1, ob_some, ob_some, hCp]
  rcases goesOn_ok (N := N) (by omega) hn hP' q3 ((dC d).1) ((dC d).2.1) ((dC d).2.2.1) ((dC d).2.2.2.1) ((dC d).2.2.2.2.2.2.2.2.2.2.1) ((dC d).2.2.2.2.2.2.2.2.2.2.2.1) with ⟨k, mA', mB', r1, r2⟩ | ⟨i, k, mA', mB', r1, r2⟩
  · rw [r2, ob_some]
    by_cases h0 : vN v = 0
    · rw [endsIn_no (by omega) (show m_many m 0 = 0 by rw [n2, h0]; rfl), ob_some]
      have hk : k = 0 := by
        rcases Nat.eq_zero_or_pos k with h | h
        · exact h
        · rw [h0] at r1
          exact (ends0 ⟨k, r1, by omega⟩).elim
      subst hk
      exact ⟨_, _, rfl, rfl, rfl, hI⟩
    · obtain ⟨f', e⟩ := endsIn_end (N := N) (by omega) (mkRW hV) h0 hP' r1 hw
      rw [e, ob_some]
      exact ⟨_, _, rfl, rfl, rfl, hI⟩
  · by_cases h0 : vN v = 0
    · rw [h0] at r1
      exact (rnd0 r1).elim
    · rw [r2, ob_some]
      obtain ⟨f', e⟩ := endsIn_rnd (N := N) (by omega) (mkRW hV) h0 hP' r1 hw
      rw [e, ob_some]
      exact ⟨_, _, rfl, rfl, rfl, hI⟩
theorem isRound_no {N : Nat} (hN : 400 ≤ N) {len many f : Nat → Int32} (h : many 0 = 0) (mA mB m2 : Nat → Int32) : ∃ mA', fX12_isRound N len many mA mB f m2 = some (0, mA', mB, f, m2) := by
  unfold fX12_isRound
  simp only [h, if_pos (show (0 : Int32) ≤ 0 by decide)]
  obtain ⟨mA1, q1, q2⟩ := im_loop (fun m_a0_metAtk2_22 => fX12_isRound_38 N 0 0 len many m_a0_metAtk2_22 mB f m2) 6 0 N mA (by omega) (by omega) (by omega) (fun z hz => absurd hz (Nat.not_lt_zero _))
  rw [show (nI 0) = (0 : Int32) from rfl] at q1
  rw [q1]
  obtain ⟨N, rfl⟩ : ∃ g, N = g + 1 := ⟨N - 1, by omega⟩
  unfold fX12_isRound_38 fX12_isRound_135 fX12_isRound_L40 fX12_isRound_40
  rw [if_pos rfl]
  simp only [if_true, bz0]
  exact ⟨mA1, rfl⟩
theorem sim_round {N : Nat} (hN : 400 ≤ N) : Sim_round N Inv := by
  intro d m a1 hI
  obtain ⟨hT, hK, hB, v, hV, hS, hP, hIm, hH⟩ := id hI
  have hV' := hV
  obtain ⟨hOk, n1, n2, -⟩ := hV'
  have hn := hOk.1
  obtain ⟨a, hA, hC, hF⟩ := hS
  unfold fX11_round fX12_round fX11_round_69 fX12_round_46
  rcases rngL a1 2 2 rfl (by omega) with ⟨e1, e2, l, hl, rfl⟩ | ⟨e1, e2, -⟩
  · obtain ⟨w, w1, w2⟩ := asNow_ok hN (m_s m) (m_w m)
    have hw := mkWk hA (hF.congr hA.2.2.2.2.1 w2)
    have hP' : aP a < 6 := by rcases hA.2.2.1 with h | h <;> omega
    have hCp : (dS d).2.2.1 = nI (aP a) := hC.2.2.1
    obtain ⟨D, gap', hear', next', slow', hD, hB', q1, q2, q3, q4⟩ := now_lay (N := N) (by omega) hV hA hC ((dC d).2.2.2.2.2.2.2.2.1) ((dC d).2.2.2.2.2.2.2.2.2.1) ((dC d).2.2.2.2.2.2.2.2.2.2.2.2.1) ((dC d).2.2.2.2.2.2.2.2.2.2.2.2.2)
    rw [e1, e2]
    simp only [ob_some, if_neg ne10]
    rw [w1, q1, ob_some, ob_some, hCp]
    rcases goesOn_ok (N := N) (by omega) hn hP' q3 ((dC d).1) ((dC d).2.1) ((dC d).2.2.1) ((dC d).2.2.2.1) ((dC d).2.2.2.2.2.2.2.2.2.2.1) ((dC d).2.2.2.2.2.2.2.2.2.2.2.1) with ⟨k, mA', mB', r1, r2⟩ | ⟨i, k, mA', mB', r1, r2⟩
    · rw [r2, ob_some]
      by_cases h0 : vN v = 0
      · obtain ⟨mA2, e⟩ := isRound_no hN (show m_many m 0 = 0 by rw [n2, h0]; rfl) (len := m_lengths m) (f := w) (m_metAt m) (m_metBeat m) (m_round m)
        rw [e, ob_some]
        exact ⟨_, _, rfl, rfl, rfl, hI⟩
      · obtain ⟨mA2, mB2, f2, e⟩ := isRound_end hN (mkRW hV) h0 hP' r1 hw (m_metAt m) (m_metBeat m) (m_round m)
        rw [e, ob_some]
        exact ⟨_, _, rfl, rfl, rfl, hI⟩
    · by_cases h0 : vN v = 0
      · rw [h0] at r1
        exact (rnd0 r1).elim
      · rw [r2, ob_some]
        obtain ⟨mA2, mB2, f2, m2, e, s0, s1, s2⟩ := isRound_rnd hN (mkRW hV) h0 hP' r1 hw (m_metAt m) (m_metBeat m) (m_round m)
        rw [e, ob_some]
        simp only [if_neg ne10, rdi_at (f := m2) (j := l) rfl (show l < 3 by omega) (by omega : (3 : Nat) < 2 ^ 31)]
        rcases (show l = 0 ∨ l = 1 ∨ l = 2 by omega) with rfl | rfl | rfl
        · rw [if_pos (show nI 0 = (0 : Int32) from rfl)]
          exact ⟨_, _, rfl, rfl, s0.symm, hI⟩
        · rw [if_neg (show ¬ nI 1 = (0 : Int32) by decide), if_pos (show nI 1 = (1 : Int32) from rfl)]
          exact ⟨_, _, rfl, rfl, s1.symm, hI⟩
        · rw [if_neg (show ¬ nI 2 = (0 : Int32) by decide), if_neg (show ¬ nI 2 = (1 : Int32) by decide)]
          exact ⟨_, _, rfl, rfl, s2.symm, hI⟩
  · rw [e1, e2]
    simp only [ob_some, if_true]
    exact ⟨_, _, rfl, rfl, rfl, hI⟩
