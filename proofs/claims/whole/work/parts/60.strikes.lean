/-! ===== pure: the stroke ===== -/
theorem sim_strikes {N : Nat} (hN : 400 ≤ N) : Sim_strikes N Inv := by
  intro d m pad hI
  obtain ⟨hT, hK, hB, v, hV, hS, hP, hIm, hH⟩ := id hI
  have hV' := hV
  obtain ⟨hOk, n1, n2, -⟩ := hV'
  have hn := hOk.1
  obtain ⟨pad', u', S', und', p1, p2, p3, p4⟩ := pn hN pad (dS d) hP hS
  obtain ⟨a, hA, hC, hF⟩ := hS
  obtain ⟨w, w1, w2⟩ := asNow_ok hN (m_s m) (m_w m)
  unfold fX11_strikes fX12_strikes fX11_strikes_23 fX12_strikes_32
  rw [w1, ob_some]
  by_cases h0 : vN v = 0
  · rw [if_pos (show (dV d).1 = 0 by rw [n1, h0]; rfl), goes_no (show m_many m 0 = 0 by rw [n2, h0]; rfl), ob_some, if_pos rfl, ite_self]
    exact ⟨_, _, rfl, rfl, rfl, hI⟩
  · rw [if_neg (show ¬ (dV d).1 = 0 by rw [n1]; exact nI_ne0 (by omega) (by omega))]
    have hK0 : (dS d).1 = nI (aK a) := hC.1
    have hK1 : m_s m 0 = nI (aK a) := hF.1
    have hKb := hA.1
    by_cases h9 : aK a = 9999
    · rw [if_neg (show ¬ (dS d).1 < (9999 : Int32) by rw [hK0, h9]; decide), if_pos (show m_s m 0 = (9999 : Int32) by rw [hK1, h9]; rfl)]
      exact ⟨_, _, rfl, rfl, rfl, hI⟩
    · rw [if_pos (show (dS d).1 < (9999 : Int32) by rw [hK0]; exact nI_lt (a := aK a) (b := 9999) (by omega) (by omega)), if_neg (show ¬ m_s m 0 = (9999 : Int32) by rw [hK1]; exact nI_ne (a := aK a) (b := 9999) (by omega) (by omega) h9)]
      obtain ⟨D, gap', hear', next', slow', hD, hB', q1, q2, q3, q4⟩ := now_lay (N := N) (by omega) hV hA hC ((dC d).2.2.2.2.2.2.2.2.1) ((dC d).2.2.2.2.2.2.2.2.2.1) ((dC d).2.2.2.2.2.2.2.2.2.2.2.2.1) ((dC d).2.2.2.2.2.2.2.2.2.2.2.2.2)
      have hP' : aP a < 6 := by rcases hA.2.2.1 with h | h <;> omega
      have hFw := hF.congr hA.2.2.2.2.1 w2
      have hb : ∀ x y, Hn (vW v) (vR v) a x y ≤ 20 := fun x y => Hn_le (fun k h => (hA.2.2.2.2.2.2.1 k h).2.2.2.2) hOk.2.2.1
      have hCp : (dS d).2.2.1 = nI (aP a) := hC.2.2.1
      have hCb : (dS d).2.1 = nI (aB a) := hC.2.1
      obtain ⟨c1, c2⟩ := q3 (aP a) hP'
      have hg := goes_ok (N := N) (by omega) (mkRW hV) (mkRH hA hFw) (S := aS a) (fun y hy => hFw.2.2.2.2.1 y (by omega)) hP' hFw.2.2.1 h0
      rw [q1, ob_some, hg, ob_some]
      simp only [rdi_at (f := next') (j := aP a) hCp hP' (by omega : (6 : Nat) < 2 ^ 31), rdi_at (f := gap') (j := aP a) hCp hP' (by omega : (6 : Nat) < 2 ^ 31), c1, c2]
      cases e : nx (Hn (vW v) (vR v) a (aP a)) (vN v) with
      | none =>
        rw [enX_none e]
        simp only [if_true]
        exact ⟨_, _, rfl, rfl, rfl, hI⟩
      | some y =>
        obtain ⟨y1, -, -, -⟩ := nx_lt e
        obtain ⟨g1, g2⟩ := gp_b (hb (aP a)) hA.2.2.2.2.2.1 hn e
        have hy : y < 6 := by omega
        rw [enX_some e, enG_some e]
        simp only [if_neg (m1_ne (show y < 2 ^ 31 by omega)), if_neg ne10, p1, p2, ob_some, fX7_strike, lti_eq, rdi_at (f := (dS d).2.2.2.2.2.2.2.2.2.2) (j := y) rfl hy (by omega : (6 : Nat) < 2 ^ 31), wri_at (f := (dS d).2.2.2.2.2.2.2.2.2.2) (j := y) rfl hy (by omega : (6 : Nat) < 2 ^ 31)]
        rw [show (0 : Int32) = nI 0 from rfl, strikes_cp 35 0 _ N (by omega) (by omega)]
        generalize gp (Hn (vW v) (vR v) a (aP a)) (aS a) (vN v) = g at *
        obtain ⟨s1, s2, s3, s4, s5⟩ := stp_at (f := w) (g := g) hy
        have hkeep := stp_keep (g := g) hy (mkRH hA hFw)
        obtain ⟨f3, -, fd, f16, -, fm, -⟩ := hkeep
        obtain ⟨o1, o2, o3, o4, o5, o6, o7, o8, o9⟩ := hA
        obtain ⟨k1, k2, k3, k4, k5, k6, k7, k8, k9⟩ := hC
        obtain ⟨r1, r2, r3, r4, r5, r6, r7, r8, r9⟩ := hFw
        refine ⟨_, _, rfl, rfl, ?_, hT, hK, hB, v, hV, ?_, ⟨u', p3, rfl, rfl, p4⟩, hIm, hH⟩
        · show nI y = if 0 ≤ 2 ∧ 2 < 35 then stp w y g 2 else m_s m 2
          rw [if_pos (by omega), s3]
        · refine ⟨(aK a + 1, aB a + g, y, aG a, aM a, aS a, aD a, aF a, aT a, aL a, (fun j => if j = y then aX a j + 1 else aX a j)), ⟨?_, ?_, Or.inl y1, o4, o5, o6, o7, o8, fun h => absurd h h0⟩, ⟨?_, ?_, rfl, k4, k5, k6, k7, k8, fun j hj => ?_⟩, ?_⟩
          · show aK a + 1 ≤ 9999
            omega
          · show aB a + g ≤ 29 * (aK a + 1)
            omega
          · show (dS d).1 + 1 = nI (aK a + 1)
            rw [hK0, nI_1]
          · show (dS d).2.1 + nI g = nI (aB a + g)
            rw [hCb, nI_add]
          · show upd _ y _ j = if j = y then aX a j + 1 else aX a j
            by_cases h : j = y
            · rw [upd_eq h, if_pos h, ← h, k9 j hj]
            · rw [upd_ne h, if_neg h, k9 j hj]
          · refine RF.congr o5 (f := stp w y g) (fun i hi => if_pos ⟨Nat.zero_le _, hi⟩) ?_
            refine ⟨?_, ?_, s3, f3, fun j hj => (s4 j hj).trans (r5 j hj), fd, f16, fm, fun j hj => ?_⟩
            · rw [s1, r1, nI_1]; rfl
            · rw [s2, r2, nI_add]; rfl
            · rw [s5 j hj, r9 j hj]; rfl
