theorem code_ok {i : Nat} (hi : i < 36) : fX12_asCode (nI i) = some ((10 * (nI i / 6)) + (nI i - nI i / 6 * 6)) := by
  unfold fX12_asCode fX12_asCode_21
  rw [if_pos (nI_pos' (by omega))]
theorem sim_mules {N : Nat} (hN : 400 ≤ N) : Sim_mules N Inv := by
  intro d m a1 a2 hI
  obtain ⟨hT, hK, hB, v, hV, hS, hP, hIm, hH⟩ := id hI
  have hV' := hV
  obtain ⟨hOk, n1, n2, -⟩ := hV'
  have hn := hOk.1
  obtain ⟨a, hA, hC, hF⟩ := hS
  unfold fX11_mules fX12_mules fX11_mules_19 fX12_mules_24 fX11_mules_69 fX11_mules_96
  rcases rngLM a1 1 20 1 20 rfl rfl (by omega) (by omega) with ⟨e1, e2, g, hg1, hg2, rfl⟩ | ⟨e1, e2, -⟩
  · rcases rngL a2 2 2 rfl (by omega) with ⟨e3, e4, l, hl, rfl⟩ | ⟨e3, e4, -⟩
    · have hP' : aP a < 6 := by rcases hA.2.2.1 with h | h <;> omega
      have hb : ∀ x y, Hn (vW v) (vR v) a x y ≤ 20 := fun x y => Hn_le (fun k h => (hA.2.2.2.2.2.2.1 k h).2.2.2.2) hOk.2.2.1
      have hCp : (dS d).2.2.1 = nI (aP a) := hC.2.2.1
      obtain ⟨D, gap', hear', next', slow', hD, hB', q1, q2, q3, q4⟩ := now_lay (N := N) (by omega) hV hA hC ((dC d).2.2.2.2.2.2.2.2.1) ((dC d).2.2.2.2.2.2.2.2.2.1) ((dC d).2.2.2.2.2.2.2.2.2.2.2.2.1) ((dC d).2.2.2.2.2.2.2.2.2.2.2.2.2)
      have hs := mkWk hA hF
      rw [e1, e2, e3, e4]
      simp only [ob_some, if_neg ne10]
      rw [q1, ob_some, hCp, n2]
      unfold fX0_fewestMules fX12_mules_58
      rcases goesOn_ok (N := N) (by omega) hn hP' q3 ((dC d).1) ((dC d).2.1) ((dC d).2.2.1) ((dC d).2.2.2.1) ((dC d).2.2.2.2.2.2.2.2.2.2.1) ((dC d).2.2.2.2.2.2.2.2.2.2.2.1) with ⟨k, mA', mB', r1, r2⟩ | ⟨i, k, mA', mB', r1, r2⟩
      · sorry
      · by_cases h0 : vN v = 0
        · rw [h0] at r1
          exact (rnd0 r1).elim
        · obtain ⟨f1, q5, q6⟩ := isE0 (len := m_lengths m) (many := m_many m) hN hs (nI g) (m_w m)
          obtain ⟨f', e5⟩ := e46_rnd (N := N) (by omega) (mkRW hV) h0 hP' r1 q5
          rw [r2, ob_some, if_neg (show ¬ nI (vN v) = (0 : Int32) from nI_ne0 (by omega) (by omega)), q6, e5, ob_some]
          simp only [if_neg ne10, ob_some]
          rcases (show l = 0 ∨ l = 1 ∨ l = 2 by omega) with rfl | rfl | rfl
          · rw [if_pos (show nI 0 = (0 : Int32) from rfl), if_pos (show nI 0 = (0 : Int32) from rfl)]
            exact ⟨_, _, rfl, rfl, rfl, hI⟩
          · exact ⟨_, _, rfl, rfl, rfl, hI⟩
          · exact ⟨_, _, rfl, rfl, rfl, hI⟩
    · rw [e1, e2, e3, e4]
      simp only [ob_some, if_neg ne10, if_true]
      exact ⟨_, _, rfl, rfl, rfl, hI⟩
  · rw [e1, e2]
    simp only [ob_some, if_true]
    exact ⟨_, _, rfl, rfl, rfl, hI⟩
