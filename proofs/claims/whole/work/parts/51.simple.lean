/-! ===== pure: the plain calls ===== -/
theorem rngL (x b : Int32) (B : Nat) (hb : b = nI B) (hB : B < 2 ^ 31) : (fX12_in x 0 b = some 1 ∧ fX11_isWithin x 0 b = some 1 ∧ ∃ j, j ≤ B ∧ x = nI j) ∨ (fX12_in x 0 b = some 0 ∧ fX11_isWithin x 0 b = some 0 ∧ ∀ j, j ≤ B → ¬ x = nI j) := by
  subst hb
  exact rngN x B hB
theorem rngLM (x a b : Int32) (A B : Nat) (ha : a = nI A) (hb : b = nI B) (hB : B < 2 ^ 31) (hA : A ≤ B) : (fX12_in x a b = some 1 ∧ fX11_isWithin x a b = some 1 ∧ ∃ j, A ≤ j ∧ j ≤ B ∧ x = nI j) ∨ (fX12_in x a b = some 0 ∧ fX11_isWithin x a b = some 0 ∧ ∀ j, A ≤ j → j ≤ B → ¬ x = nI j) := by
  subst ha
  subst hb
  exact rngM x A B hB hA
theorem char_nI {c : Nat} (h : c < 256) : vp_nar .char (((nI c).toUInt32 % 65536).toInt32) = nI c := by
  rw [pk_vc, pk_char, pk_tn (by omega), Nat.mod_eq_of_lt (by omega)]
theorem upd_at (f : Nat → Int32) (k : Nat) (x : Int32) (j : Nat) : upd f k x j = if j = k then x else f j := rfl
theorem sim_clear (N : Nat) : Sim_clear N Inv := by
  intro d m hI
  obtain ⟨⟨t, ht, h1, h2, h3⟩, hK, hB, v, hV, hS, hP, hIm, hH⟩ := hI
  refine ⟨_, _, rfl, rfl, ?_, ?_⟩
  · show (dT d).1 = m_typed m
    rw [h1, h2]
  · exact ⟨⟨0, by omega, rfl, rfl, fun j h => by omega⟩, hK, hB, v, hV, hS, hP, hIm, hH⟩
theorem sim_type (N : Nat) : Sim_type N Inv := by
  intro d m a1 hI
  obtain ⟨⟨t, ht, h1, h2, h3⟩, hK, hB, v, hV, hS, hP, hIm, hH⟩ := id hI
  unfold fX11_type fX12_type
  rcases rngL a1 255 255 rfl (by omega) with ⟨e1, e2, c, hc, rfl⟩ | ⟨e1, e2, -⟩
  · simp only [e1, e2, ob_some, if_neg ne10, h1, h2]
    by_cases h200 : t = 200
    · subst h200
      rw [if_pos (show nI 200 = (200 : Int32) from rfl), if_neg (show ¬ nI 200 < (200 : Int32) by decide)]
      refine ⟨_, _, rfl, rfl, rfl, ?_⟩
      exact ⟨⟨200, ht, rfl, rfl, h3⟩, hK, hB, v, hV, hS, hP, hIm, hH⟩
    · have hlt : t < 200 := by omega
      rw [if_neg (show ¬ nI t = (200 : Int32) from fun e => h200 ((nI_eq (by omega) (by omega)).mp e)), if_pos (show nI t < (200 : Int32) from nI_lt (a := t) (b := 200) hlt (by omega))]
      rw [wri_at (j := t) rfl hlt (by omega), wri_at (j := t) rfl hlt (by omega), lti_eq, lti_eq, char_nI (by omega)]
      refine ⟨_, _, rfl, rfl, rfl, ?_⟩
      refine ⟨⟨t + 1, by omega, nI_1 t, nI_1 t, fun j hj => ?_⟩, hK, hB, v, hV, hS, hP, hIm, hH⟩
      show ∃ c', c' < 256 ∧ upd _ t (nI c) j = nI c' ∧ upd _ t (nI c) j = nI c'
      rw [upd_at, upd_at]
      by_cases hjt : j = t
      · rw [if_pos hjt, if_pos hjt]
        exact ⟨c, by omega, rfl, rfl⟩
      · rw [if_neg hjt, if_neg hjt]
        exact h3 j (by omega)
  · simp only [e1, e2, ob_some, if_true, h1, h2]
    refine ⟨_, _, rfl, rfl, rfl, ?_⟩
    exact ⟨⟨t, ht, rfl, rfl, h3⟩, hK, hB, v, hV, hS, hP, hIm, hH⟩
theorem sim_forget (N : Nat) : Sim_forget N Inv := by
  intro d m hI
  obtain ⟨hT, hK, hB, v, hV, hS, hP, hIm, h, hh, h1, h2, h3⟩ := hI
  refine ⟨_, _, rfl, rfl, ?_, ?_⟩
  · show dHN d = m_heardMany m
    rw [h1, h2]
  · exact ⟨hT, hK, hB, v, hV, hS, hP, hIm, 0, by omega, rfl, rfl, fun j h => by omega⟩
theorem sim_unsay (N : Nat) : Sim_unsay N Inv := by
  intro d m hI
  obtain ⟨hT, hK, ⟨h, hh, h1, h2, h3⟩, v, hV, hS, hP, hIm, hH⟩ := hI
  refine ⟨_, _, rfl, rfl, ?_, ?_⟩
  · show dTN d = m_tellMany m
    rw [h1, h2]
  · exact ⟨hT, hK, ⟨0, by omega, rfl, rfl, fun j h => by omega⟩, v, hV, hS, hP, hIm, hH⟩
theorem sim_tells (N : Nat) : Sim_tells N Inv := by
  intro d m a1 hI
  obtain ⟨hT, hK, ⟨t, ht, h1, h2, h3⟩, v, hV, hS, hP, hIm, hH⟩ := id hI
  unfold fX11_tells fX12_tells
  rcases rngL a1 400 400 rfl (by omega) with ⟨e1, e2, c, hc, rfl⟩ | ⟨e1, e2, -⟩
  · simp only [e1, e2, ob_some, if_neg ne10, h1, h2]
    by_cases h6 : t = 6
    · subst h6
      rw [if_pos (show nI 6 = (6 : Int32) from rfl), if_neg (show ¬ nI 6 < (6 : Int32) by decide)]
      refine ⟨_, _, rfl, rfl, rfl, ?_⟩
      exact ⟨hT, hK, ⟨6, ht, rfl, rfl, h3⟩, v, hV, hS, hP, hIm, hH⟩
    · have hlt : t < 6 := by omega
      rw [if_neg (show ¬ nI t = (6 : Int32) from fun e => h6 ((nI_eq (by omega) (by omega)).mp e)), if_pos (show nI t < (6 : Int32) from nI_lt (a := t) (b := 6) hlt (by omega))]
      rw [wri_at (j := t) rfl hlt (by omega), wri_at (j := t) rfl hlt (by omega), lti_eq, lti_eq]
      refine ⟨_, _, rfl, rfl, rfl, ?_⟩
      refine ⟨hT, hK, ⟨t + 1, by omega, nI_1 t, nI_1 t, fun j hj => ?_⟩, v, hV, hS, hP, hIm, hH⟩
      show ∃ b, b ≤ 400 ∧ upd _ t (nI c) j = nI b ∧ upd _ t (nI c) j = nI b
      rw [upd_at, upd_at]
      by_cases hjt : j = t
      · rw [if_pos hjt, if_pos hjt]
        exact ⟨c, hc, rfl, rfl⟩
      · rw [if_neg hjt, if_neg hjt]
        exact h3 j (by omega)
  · simp only [e1, e2, ob_some, if_true, h1, h2]
    refine ⟨_, _, rfl, rfl, rfl, ?_⟩
    exact ⟨hT, hK, ⟨t, ht, rfl, rfl, h3⟩, v, hV, hS, hP, hIm, hH⟩
theorem sim_heard (N : Nat) : Sim_heard N Inv := by
  intro d m a1 a2 hI
  obtain ⟨hT, hK, hB, v, hV, hS, hP, hIm, t, ht, h1, h2, h3⟩ := id hI
  have hV' := hV
  obtain ⟨hOk, n1, n2, -⟩ := hV'
  unfold fX11_heard fX12_heard fX11_heard_19 fX12_heard_24
  rw [n1]
  rcases vil hOk.1 a1 n2 with ⟨e1, e2, x, hx, rfl⟩ | ⟨e1, e2, -⟩
  · simp only [e1, e2, ob_some, if_neg ne10, h1, h2]
    rcases rngL a2 200 200 rfl (by omega) with ⟨e3, e4, c, hc, rfl⟩ | ⟨e3, e4, -⟩
    · simp only [e3, e4, ob_some, if_neg ne10]
      by_cases h5 : t = 5
      · subst h5
        rw [if_pos (show nI 5 = (5 : Int32) from rfl), if_neg (show ¬ nI 5 < (5 : Int32) by decide)]
        refine ⟨_, _, rfl, rfl, rfl, ?_⟩
        exact ⟨hT, hK, hB, v, hV, hS, hP, hIm, 5, ht, rfl, rfl, h3⟩
      · have hlt : t < 5 := by omega
        rw [if_neg (show ¬ nI t = (5 : Int32) from fun e => h5 ((nI_eq (by omega) (by omega)).mp e)), if_pos (show nI t < (5 : Int32) from nI_lt (a := t) (b := 5) hlt (by omega))]
        simp only [wri_at (j := t) rfl hlt (by omega : (5 : Nat) < 2 ^ 31), lti_eq]
        refine ⟨_, _, rfl, rfl, rfl, ?_⟩
        refine ⟨hT, hK, hB, v, hV, hS, hP, hIm, t + 1, by omega, nI_1 t, nI_1 t, fun j hj => ?_⟩
        show ∃ v' b, v' < vN v ∧ b ≤ 200 ∧ upd _ t (nI x) j = nI v' ∧ upd _ t (nI x) j = nI v' ∧ upd _ t (nI c) j = nI b ∧ upd _ t (nI c) j = nI b
        simp only [upd_at]
        by_cases hjt : j = t
        · simp only [if_pos hjt]
          exact ⟨x, c, hx, hc, rfl, rfl, rfl, rfl⟩
        · simp only [if_neg hjt]
          exact h3 j (by omega)
    · simp only [e3, e4, ob_some, if_true]
      refine ⟨_, _, rfl, rfl, rfl, ?_⟩
      exact ⟨hT, hK, hB, v, hV, hS, hP, hIm, t, ht, rfl, rfl, h3⟩
  · simp only [e1, e2, ob_some, if_true, h1, h2]
    refine ⟨_, _, rfl, rfl, rfl, ?_⟩
    exact ⟨hT, hK, hB, v, hV, hS, hP, hIm, t, ht, rfl, rfl, h3⟩
theorem sim_way (N : Nat) : Sim_way N Inv := by
  intro d m a1 a2 hI
  obtain ⟨hT, hK, hB, v, hV, hS, hP, hIm, hH⟩ := id hI
  have hV' := hV
  obtain ⟨hOk, n1, n2, -, -, -, -, w1, w2, -⟩ := hV'
  have hn := hOk.1
  unfold fX11_way fX12_way fX11_way_16 fX11_way_38 fX12_way_21 fX12_way_53 fX9_between
  rw [n1]
  rcases vil hn a1 n2 with ⟨e1, e2, x, hx, rfl⟩ | ⟨e1, e2, -⟩
  · rcases vil hn a2 n2 with ⟨e3, e4, y, hy, rfl⟩ | ⟨e3, e4, -⟩
    · simp only [e1, e2, e3, e4, ob_some, if_neg ne10]
      have hix : (6 : Int32) * nI x + nI y = nI (6 * x + y) := by simp only [litI, pk_mul, nI_add]
      have hix2 : nI x * (6 : Int32) + nI y = nI (6 * x + y) := by simp only [litI, pk_mul, nI_add]; rw [Nat.mul_comm]
      simp only [rdi_at hix (show 6 * x + y < 72 by omega) (by omega), rdi_at hix2 (show 6 * x + y < 36 by omega) (by omega), w1 x y (by omega) (by omega), w2 x y (by omega) (by omega), ob_some]
      by_cases hz : nI (vW v x y) = 0
      · simp only [if_pos hz]
        exact ⟨_, _, rfl, rfl, rfl, hI⟩
      · simp only [if_neg hz]
        exact ⟨_, _, rfl, rfl, rfl, hI⟩
    · simp only [e1, e2, e3, e4, ob_some, if_neg ne10, if_true]
      exact ⟨_, _, rfl, rfl, rfl, hI⟩
  · simp only [e1, e2, ob_some, if_true]
    exact ⟨_, _, rfl, rfl, rfl, hI⟩
theorem nI_ne {a b : Nat} (ha : a < 2 ^ 31) (hb : b < 2 ^ 31) (h : a ≠ b) : ¬ nI a = nI b := fun e => h ((nI_eq ha hb).mp e)
theorem sim_count (N : Nat) : Sim_count N Inv := by
  intro d m a1 hI
  obtain ⟨⟨t, ht, t1, t2, -⟩, hK, ⟨b, hb, b1, b2, -⟩, v, hV, hS, hP, hIm, h, hh, h1, h2, -⟩ := id hI
  have hV' := hV
  obtain ⟨hOk, n1, n2, r1, r2, s1, s2, -⟩ := hV'
  unfold fX11_count fX12_count fX12_count_60
  rw [t1, t2, b1, b2, h1, h2, n1, r1, s1]
  rcases rngL a1 2 2 rfl (by omega) with ⟨e1, -, c, hc, rfl⟩ | ⟨e1, -, hno⟩
  · simp only [e1, ob_some, if_neg ne10, rdi_at (j := c) rfl (show c < 6 by omega) (by omega : (6 : Nat) < 2 ^ 31)]
    rcases (show c = 0 ∨ c = 1 ∨ c = 2 by omega) with rfl | rfl | rfl
    · rw [if_pos (show nI 0 = (0 : Int32) from rfl), n2]
      exact ⟨_, _, rfl, rfl, rfl, hI⟩
    · rw [if_neg (show ¬ nI 1 = (0 : Int32) by decide), if_pos (show nI 1 = (1 : Int32) from rfl), r2]
      exact ⟨_, _, rfl, rfl, rfl, hI⟩
    · rw [if_neg (show ¬ nI 2 = (0 : Int32) by decide), if_neg (show ¬ nI 2 = (1 : Int32) by decide), if_pos (show nI 2 = (2 : Int32) from rfl), s2]
      exact ⟨_, _, rfl, rfl, rfl, hI⟩
  · simp only [e1, ob_some, if_true]
    rw [if_neg (show ¬ a1 = (0 : Int32) from hno 0 (by omega)), if_neg (show ¬ a1 = (1 : Int32) from hno 1 (by omega)), if_neg (show ¬ a1 = (2 : Int32) from hno 2 (by omega))]
    by_cases c3 : a1 = 3
    · simp only [if_pos c3]
      exact ⟨_, _, rfl, rfl, rfl, hI⟩
    · simp only [if_neg c3]
      by_cases c4 : a1 = 4
      · simp only [if_pos c4]
        exact ⟨_, _, rfl, rfl, rfl, hI⟩
      · simp only [if_neg c4]
        by_cases c5 : a1 = 5
        · simp only [if_pos c5]
          exact ⟨_, _, rfl, rfl, rfl, hI⟩
        · simp only [if_neg c5]
          exact ⟨_, _, rfl, rfl, rfl, hI⟩
theorem sim_now (N : Nat) : Sim_now N Inv := by
  intro d m a1 hI
  obtain ⟨hT, hK, hB, v, hV, ⟨a, hA, hC, hF⟩, ⟨u, hu, u1, u2, -⟩, hIm, hH⟩ := id hI
  obtain ⟨c1, c2, c3, c4, -, c6, -⟩ := hC
  obtain ⟨f1, f2, f3, f4, -, -, f7, -⟩ := hF
  unfold fX11_now fX12_now fX12_now_49
  rw [c1, c2, c3, c4, c6, u1, u2]
  rcases rngL a1 5 5 rfl (by omega) with ⟨e1, -, c, hc, rfl⟩ | ⟨e1, -, hno⟩
  · simp only [e1, ob_some, if_neg ne10]
    rcases (show c = 0 ∨ c = 1 ∨ c = 2 ∨ c = 3 ∨ c = 4 ∨ c = 5 by omega) with rfl | rfl | rfl | rfl | rfl | rfl
    · rw [if_pos (show nI 0 = (0 : Int32) from rfl), if_neg (show ¬ (4 : Int32) ≤ nI 0 by decide), rdi_at (j := 0) rfl (by omega) (by omega), f1]
      exact ⟨_, _, rfl, rfl, rfl, hI⟩
    · rw [if_neg (show ¬ nI 1 = (0 : Int32) by decide), if_pos (show nI 1 = (1 : Int32) from rfl), if_neg (show ¬ (4 : Int32) ≤ nI 1 by decide), rdi_at (j := 1) rfl (by omega) (by omega), f2]
      exact ⟨_, _, rfl, rfl, rfl, hI⟩
    · rw [if_neg (show ¬ nI 2 = (0 : Int32) by decide), if_neg (show ¬ nI 2 = (1 : Int32) by decide), if_pos (show nI 2 = (2 : Int32) from rfl), if_neg (show ¬ (4 : Int32) ≤ nI 2 by decide), rdi_at (j := 2) rfl (by omega) (by omega), f3]
      exact ⟨_, _, rfl, rfl, rfl, hI⟩
    · rw [if_neg (show ¬ nI 3 = (0 : Int32) by decide), if_neg (show ¬ nI 3 = (1 : Int32) by decide), if_neg (show ¬ nI 3 = (2 : Int32) by decide), if_pos (show nI 3 = (3 : Int32) from rfl), if_neg (show ¬ (4 : Int32) ≤ nI 3 by decide), rdi_at (j := 3) rfl (by omega) (by omega), f4]
      exact ⟨_, _, rfl, rfl, rfl, hI⟩
    · rw [if_neg (show ¬ nI 4 = (0 : Int32) by decide), if_neg (show ¬ nI 4 = (1 : Int32) by decide), if_neg (show ¬ nI 4 = (2 : Int32) by decide), if_neg (show ¬ nI 4 = (3 : Int32) by decide), if_pos (show nI 4 = (4 : Int32) from rfl), if_pos (show (4 : Int32) ≤ nI 4 by decide), if_pos (show nI 4 = (4 : Int32) from rfl), f7]
      exact ⟨_, _, rfl, rfl, rfl, hI⟩
    · rw [if_neg (show ¬ nI 5 = (0 : Int32) by decide), if_neg (show ¬ nI 5 = (1 : Int32) by decide), if_neg (show ¬ nI 5 = (2 : Int32) by decide), if_neg (show ¬ nI 5 = (3 : Int32) by decide), if_neg (show ¬ nI 5 = (4 : Int32) by decide), if_pos (show nI 5 = (5 : Int32) from rfl), if_pos (show (4 : Int32) ≤ nI 5 by decide), if_neg (show ¬ nI 5 = (4 : Int32) by decide)]
      exact ⟨_, _, rfl, rfl, rfl, hI⟩
  · simp only [e1, ob_some, if_true]
    rw [if_neg (show ¬ a1 = (0 : Int32) from hno 0 (by omega)), if_neg (show ¬ a1 = (1 : Int32) from hno 1 (by omega)), if_neg (show ¬ a1 = (2 : Int32) from hno 2 (by omega)), if_neg (show ¬ a1 = (3 : Int32) from hno 3 (by omega)), if_neg (show ¬ a1 = (4 : Int32) from hno 4 (by omega)), if_neg (show ¬ a1 = (5 : Int32) from hno 5 (by omega))]
    exact ⟨_, _, rfl, rfl, rfl, hI⟩
