/-! ===== pure: what is done, undone, kept ===== -/
theorem upd_ne {f : Nat → Int32} {k j : Nat} {x : Int32} (h : j ≠ k) : upd f k x j = f j := by rw [upd_at, if_neg h]
theorem upd_eq {f : Nat → Int32} {k j : Nat} {x : Int32} (h : j = k) : upd f k x j = x := by rw [upd_at, if_pos h]
theorem deaf_get0 : ∀ (D : Fin 64) (v : Fin 6), ((nI D.val) >>> (nI v.val &&& 31)) &&& 1 = if D.val.testBit v.val then 1 else 0 := by decide +kernel
theorem deaf_get {D v : Nat} (hD : D < 64) (hv : v < 6) : ((nI D) >>> (nI v &&& 31)) &&& 1 = if D.testBit v then 1 else 0 := deaf_get0 ⟨D, hD⟩ ⟨v, hv⟩
def deafE (D v b : Nat) : Int32 := ((nI D) &&& (((1 : Int32) <<< (nI v &&& 31)) ^^^ (-1 : Int32))) ||| ((nI b) <<< (nI v &&& 31))
theorem deaf_set0 : ∀ (D : Fin 64) (v : Fin 6) (b : Fin 2), (deafE D.val v.val b.val).toNatClampNeg < 64 ∧ deafE D.val v.val b.val = nI (deafE D.val v.val b.val).toNatClampNeg ∧ ∀ w : Fin 6, (deafE D.val v.val b.val).toNatClampNeg.testBit w.val = if w.val = v.val then decide (b.val = 1) else D.val.testBit w.val := by decide +kernel
theorem deaf_set {D v b : Nat} (hD : D < 64) (hv : v < 6) (hb : b < 2) : ∃ E, E < 64 ∧ deafE D v b = nI E ∧ ∀ w, w < 6 → E.testBit w = if w = v then decide (b = 1) else D.testBit w := by
  obtain ⟨h1, h2, h3⟩ := deaf_set0 ⟨D, hD⟩ ⟨v, hv⟩ ⟨b, hb⟩
  exact ⟨_, h1, h2, fun w hw => h3 ⟨w, hw⟩⟩
theorem sim_fog {N : Nat} (hN : 400 ≤ N) : Sim_fog N Inv := by
  intro d m pad a1 hI
  obtain ⟨hT, hK, hB, v, hV, hS, hP, hIm, hH⟩ := id hI
  unfold fX11_fog fX12_fog
  rcases rngL a1 1 1 rfl (by omega) with ⟨e1, e2, g, hg, rfl⟩ | ⟨e1, e2, -⟩
  · obtain ⟨pad', u', S', und', p1, p2, p3, p4⟩ := pn hN pad (dS d) hP hS
    simp only [e1, e2, ob_some, if_neg ne10, p1, p2, lti_eq]
    obtain ⟨a, hA, hC, hF⟩ := hS
    obtain ⟨c1, c2, c3, c4, c5, c6, c7, c8, c9⟩ := hC
    obtain ⟨f1, f2, f3, f4, f5, f6, f7, f8, f9⟩ := hF
    refine ⟨_, _, rfl, rfl, c4.trans f4.symm, hT, hK, hB, v, hV, ?_, ⟨u', p3, rfl, rfl, p4⟩, hIm, hH⟩
    obtain ⟨o1, o2, o3, o4, o5, o6, o7, o8, o9⟩ := hA
    refine ⟨(aK a, aB a, aP a, g, aM a, aS a, aD a, aF a, aT a, aL a, aX a), ⟨o1, o2, o3, hg, o5, o6, o7, o8, o9⟩, ⟨c1, c2, c3, rfl, c5, c6, c7, c8, c9⟩, ?_⟩
    refine ⟨f1, f2, f3, rfl, fun w hw => (upd_ne (by omega)).trans (f5 w hw), fun w hw => (upd_ne (by omega)).trans (f6 w hw), f7, fun k hk => ?_, fun w hw => (upd_ne (by omega)).trans (f9 w hw)⟩
    obtain ⟨q1, q2, q3⟩ := f8 k hk
    exact ⟨(upd_ne (by omega)).trans q1, (upd_ne (by omega)).trans q2, (upd_ne (by omega)).trans q3⟩
  · simp only [e1, e2, ob_some, if_true]
    exact ⟨_, _, rfl, rfl, rfl, hI⟩
theorem sim_cold {N : Nat} (hN : 400 ≤ N) : Sim_cold N Inv := by
  intro d m pad a1 a2 hI
  obtain ⟨hT, hK, hB, v, hV, hS, hP, hIm, hH⟩ := id hI
  have hV' := hV
  obtain ⟨hOk, n1, n2, -⟩ := hV'
  have hn := hOk.1
  unfold fX11_cold fX12_cold fX11_cold_18 fX12_cold_23
  rw [n1]
  rcases vil hn a1 n2 with ⟨e1, e2, x, hx, rfl⟩ | ⟨e1, e2, -⟩
  · rcases rngL a2 9 9 rfl (by omega) with ⟨e3, e4, g, hg, rfl⟩ | ⟨e3, e4, -⟩
    · obtain ⟨pad', u', S', und', p1, p2, p3, p4⟩ := pn hN pad (dS d) hP hS
      have hix : (4 : Int32) + nI x = nI (4 + x) := by simp only [litI, nI_add]
      simp only [e1, e2, e3, e4, ob_some, if_neg ne10, p1, p2, rdi_at hix (show 4 + x < 35 by omega) (by omega : (35 : Nat) < 2 ^ 31), wri_at hix (show 4 + x < 35 by omega) (by omega : (35 : Nat) < 2 ^ 31), rdi_at (j := x) rfl (show x < 6 by omega) (by omega : (6 : Nat) < 2 ^ 31), wri_at (j := x) rfl (show x < 6 by omega) (by omega : (6 : Nat) < 2 ^ 31)]
      obtain ⟨a, hA, hC, hF⟩ := hS
      obtain ⟨c1, c2, c3, c4, c5, c6, c7, c8, c9⟩ := hC
      obtain ⟨f1, f2, f3, f4, f5, f6, f7, f8, f9⟩ := hF
      refine ⟨_, _, rfl, rfl, (c8 x (by omega)).trans (f5 x (by omega)).symm, hT, hK, hB, v, hV, ?_, ⟨u', p3, rfl, rfl, p4⟩, hIm, hH⟩
      obtain ⟨o1, o2, o3, o4, o5, o6, o7, o8, o9⟩ := hA
      refine ⟨(aK a, aB a, aP a, aG a, aM a, (fun w => if w = x then g else aS a w), aD a, aF a, aT a, aL a, aX a), ⟨o1, o2, o3, o4, o5, fun w hw => ?_, o7, o8, o9⟩, ⟨c1, c2, c3, c4, c5, c6, c7, fun w hw => ?_, c9⟩, ?_⟩
      · show (if w = x then g else aS a w) ≤ 9
        by_cases h : w = x
        · rw [if_pos h]; exact hg
        · rw [if_neg h]; exact o6 w hw
      · show upd _ x (nI g) w = nI (if w = x then g else aS a w)
        by_cases h : w = x
        · rw [if_pos h, upd_eq h]
        · rw [if_neg h, upd_ne h]; exact c8 w hw
      · refine ⟨(upd_ne (by omega)).trans f1, (upd_ne (by omega)).trans f2, (upd_ne (by omega)).trans f3, (upd_ne (by omega)).trans f4, fun w hw => ?_, fun w hw => (upd_ne (by omega)).trans (f6 w hw), (upd_ne (by omega)).trans f7, fun k hk => ?_, fun w hw => (upd_ne (by omega)).trans (f9 w hw)⟩
        · show upd _ (4 + x) (nI g) (4 + w) = nI (if w = x then g else aS a w)
          by_cases h : w = x
          · rw [if_pos h, upd_eq (by omega)]
          · rw [if_neg h, upd_ne (by omega)]; exact f5 w hw
        · obtain ⟨q1, q2, q3⟩ := f8 k hk
          exact ⟨(upd_ne (by omega)).trans q1, (upd_ne (by omega)).trans q2, (upd_ne (by omega)).trans q3⟩
    · simp only [e1, e2, e3, e4, ob_some, if_neg ne10, if_true]
      exact ⟨_, _, rfl, rfl, rfl, hI⟩
  · simp only [e1, e2, ob_some, if_true]
    exact ⟨_, _, rfl, rfl, rfl, hI⟩
theorem sim_deafens {N : Nat} (hN : 400 ≤ N) : Sim_deafens N Inv := by
  intro d m pad a1 a2 hI
  obtain ⟨hT, hK, hB, v, hV, hS, hP, hIm, hH⟩ := id hI
  have hV' := hV
  obtain ⟨hOk, n1, n2, -⟩ := hV'
  have hn := hOk.1
  unfold fX11_deafens fX12_deafens fX11_deafens_17 fX12_deafens_22
  rw [n1]
  rcases vil hn a1 n2 with ⟨e1, e2, x, hx, rfl⟩ | ⟨e1, e2, -⟩
  · rcases rngL a2 1 1 rfl (by omega) with ⟨e3, e4, g, hg, rfl⟩ | ⟨e3, e4, -⟩
    · obtain ⟨pad', u', S', und', p1, p2, p3, p4⟩ := pn hN pad (dS d) hP hS
      have hix : (10 : Int32) + nI x = nI (10 + x) := by simp only [litI, nI_add]
      simp only [e1, e2, e3, e4, ob_some, if_neg ne10, p1, p2, lti_eq, rdi_at hix (show 10 + x < 35 by omega) (by omega : (35 : Nat) < 2 ^ 31), wri_at hix (show 10 + x < 35 by omega) (by omega : (35 : Nat) < 2 ^ 31)]
      obtain ⟨a, hA, hC, hF⟩ := hS
      obtain ⟨c1, c2, c3, c4, ⟨D, hD, c5, c5'⟩, c6, c7, c8, c9⟩ := hC
      obtain ⟨f1, f2, f3, f4, f5, f6, f7, f8, f9⟩ := hF
      obtain ⟨E, hE, s1, s2⟩ := deaf_set (D := D) (v := x) (b := g) hD (by omega) (by omega)
      refine ⟨_, _, rfl, rfl, ?_, hT, hK, hB, v, hV, ?_, ⟨u', p3, rfl, rfl, p4⟩, hIm, hH⟩
      · show ((dS d).2.2.2.2.1 >>> (nI x &&& 31)) &&& 1 = m_s m (10 + x)
        rw [c5, deaf_get hD (by omega), f6 x (by omega), c5' x (by omega)]
      obtain ⟨o1, o2, o3, o4, o5, o6, o7, o8, o9⟩ := hA
      refine ⟨(aK a, aB a, aP a, aG a, aM a, aS a, (fun w => if w = x then decide (g = 1) else aD a w), aF a, aT a, aL a, aX a), ⟨o1, o2, o3, o4, o5, o6, o7, fun w hw => ?_, o9⟩, ⟨c1, c2, c3, c4, ⟨E, hE, ?_, fun w hw => ?_⟩, c6, c7, c8, c9⟩, ?_⟩
      · show (if w = x then decide (g = 1) else aD a w) = false
        rw [if_neg (by omega)]
        exact o8 w hw
      · rw [← s1]
        show ((dS d).2.2.2.2.1 &&& (((1 : Int32) <<< (nI x &&& 31)) ^^^ (-1 : Int32))) ||| (nI g <<< (nI x &&& 31)) = deafE D x g
        rw [c5]
        rfl
      · show E.testBit w = if w = x then decide (g = 1) else aD a w
        rw [s2 w hw]
        by_cases h : w = x
        · rw [if_pos h, if_pos h]
        · rw [if_neg h, if_neg h]; exact c5' w hw
      · refine ⟨(upd_ne (by omega)).trans f1, (upd_ne (by omega)).trans f2, (upd_ne (by omega)).trans f3, (upd_ne (by omega)).trans f4, fun w hw => (upd_ne (by omega)).trans (f5 w hw), fun w hw => ?_, (upd_ne (by omega)).trans f7, fun k hk => ?_, fun w hw => (upd_ne (by omega)).trans (f9 w hw)⟩
        · show upd _ (10 + x) (nI g) (10 + w) = if (if w = x then decide (g = 1) else aD a w) = true then 1 else 0
          by_cases h : w = x
          · rw [if_pos h, upd_eq (by omega)]
            rcases (show g = 0 ∨ g = 1 by omega) with rfl | rfl <;> rfl
          · rw [if_neg h, upd_ne (by omega)]; exact f6 w hw
        · obtain ⟨q1, q2, q3⟩ := f8 k hk
          exact ⟨(upd_ne (by omega)).trans q1, (upd_ne (by omega)).trans q2, (upd_ne (by omega)).trans q3⟩
    · simp only [e1, e2, e3, e4, ob_some, if_neg ne10, if_true]
      exact ⟨_, _, rfl, rfl, rfl, hI⟩
  · simp only [e1, e2, ob_some, if_true]
    exact ⟨_, _, rfl, rfl, rfl, hI⟩
theorem sim_sends {N : Nat} (hN : 400 ≤ N) : Sim_sends N Inv := by
  intro d m pad a1 a2 a3 hI
  obtain ⟨hT, hK, hB, v, hV, hS, hP, hIm, hH⟩ := id hI
  have hV' := hV
  obtain ⟨hOk, n1, n2, -⟩ := hV'
  have hn := hOk.1
  unfold fX11_sends fX12_sends fX11_sends_31 fX12_sends_36
  rw [n1]
  rcases vil hn a1 n2 with ⟨e1, e2, x, hx, rfl⟩ | ⟨e1, e2, -⟩
  · rcases vil hn a2 n2 with ⟨e3, e4, y, hy, rfl⟩ | ⟨e3, e4, -⟩
    · by_cases hxy : nI x = nI y
      · simp only [e1, e2, e3, e4, ob_some, if_neg ne10, if_pos hxy]
        exact ⟨_, _, rfl, rfl, rfl, hI⟩
      · rcases rngLM a3 1 20 1 20 rfl rfl (by omega) (by omega) with ⟨e5, e6, g, hg1, hg2, rfl⟩ | ⟨e5, e6, -⟩
        · obtain ⟨pad', u', S', und', p1, p2, p3, p4⟩ := pn hN pad (dS d) hP hS
          obtain ⟨a, hA, hC, hF⟩ := hS
          obtain ⟨c1, c2, c3, c4, c5, c6, c7, c8, c9⟩ := hC
          obtain ⟨f1, f2, f3, f4, f5, f6, f7, f8, f9⟩ := hF
          have hA' := hA
          obtain ⟨o1, o2, o3, o4, o5, o6, o7, o8, o9⟩ := hA'
          by_cases h2 : aM a = 2
          · simp only [e1, e2, e3, e4, e5, e6, ob_some, if_neg ne10, if_neg hxy, f7, c6, h2]
            rw [if_neg (show ¬ nI 2 < (2 : Int32) by decide), if_pos (show nI 2 = (2 : Int32) from rfl)]
            refine ⟨_, _, rfl, rfl, rfl, hT, hK, hB, v, hV, ?_, hP, hIm, hH⟩
            refine ⟨a, hA, ⟨c1, c2, c3, c4, c5, by rw [h2]; rfl, c7, c8, c9⟩, f1, f2, f3, f4, f5, f6, f7, f8, f9⟩
          · have hm : aM a < 2 := by omega
            have hne : x ≠ y := fun e => hxy (by rw [e])
            simp only [e1, e2, e3, e4, e5, e6, ob_some, if_neg ne10, if_neg hxy, f7, c6]
            rw [if_pos (show nI (aM a) < (2 : Int32) from nI_lt (a := aM a) (b := 2) hm (by omega)), if_neg (show ¬ nI (aM a) = (2 : Int32) from nI_ne (a := aM a) (b := 2) (by omega) (by omega) h2)]
            rw [c6] at p1
            simp only [p1, p2, ob_some]
            unfold fX7_addMule fX12_sent
            rw [if_pos (show nI (aM a) < (2 : Int32) from nI_lt (a := aM a) (b := 2) hm (by omega))]
            have i0 : (17 : Int32) + (3 : Int32) * m_s m 16 = nI (17 + 3 * aM a) := by rw [f7]; simp only [litI, pk_mul, nI_add]
            have i1 : nI (17 + 3 * aM a) + (1 : Int32) = nI (18 + 3 * aM a) := by rw [nI_1]; congr 1; omega
            have i2 : nI (17 + 3 * aM a) + (2 : Int32) = nI (19 + 3 * aM a) := by rw [show (2 : Int32) = nI 2 from rfl, nI_add]; congr 1; omega
            simp only [lti_eq, i0, i1, i2, wri_at (j := aM a) rfl (show aM a < 2 from hm) (by omega : (2 : Nat) < 2 ^ 31), wri_at (j := 17 + 3 * aM a) rfl (show 17 + 3 * aM a < 35 by omega) (by omega : (35 : Nat) < 2 ^ 31), wri_at (j := 18 + 3 * aM a) rfl (show 18 + 3 * aM a < 35 by omega) (by omega : (35 : Nat) < 2 ^ 31), wri_at (j := 19 + 3 * aM a) rfl (show 19 + 3 * aM a < 35 by omega) (by omega : (35 : Nat) < 2 ^ 31), ob_some]
            have hG : upd (upd (upd (m_s m) (17 + 3 * aM a) (nI x)) (18 + 3 * aM a) (nI y)) (19 + 3 * aM a) (nI g) 16 = nI (aM a) := by
              rw [upd_ne (by omega), upd_ne (by omega), upd_ne (by omega), f7]
            simp only [hG]
            have F : ∀ j, j ≠ 16 → j ≠ 17 + 3 * aM a → j ≠ 18 + 3 * aM a → j ≠ 19 + 3 * aM a → upd (upd (upd (upd (m_s m) (17 + 3 * aM a) (nI x)) (18 + 3 * aM a) (nI y)) (19 + 3 * aM a) (nI g)) 16 (nI (aM a) + 1) j = m_s m j := fun j h1 h2 h3 h4 => by
              rw [upd_ne h1, upd_ne h4, upd_ne h3, upd_ne h2]
            have hfin : upd (upd (upd (upd (m_s m) (17 + 3 * aM a) (nI x)) (18 + 3 * aM a) (nI y)) (19 + 3 * aM a) (nI g)) 16 (nI (aM a) + 1) 16 = nI (aM a) + 1 := upd_eq rfl
            refine ⟨_, _, rfl, rfl, hfin.symm, hT, hK, hB, v, hV, ?_, ⟨u', p3, rfl, rfl, p4⟩, hIm, hH⟩
            refine ⟨(aK a, aB a, aP a, aG a, aM a + 1, aS a, aD a, (fun k => if k = aM a then x else aF a k), (fun k => if k = aM a then y else aT a k), (fun k => if k = aM a then g else aL a k), aX a), ⟨o1, o2, o3, o4, ?_, o6, fun k hk => ?_, o8, o9⟩, ⟨c1, c2, c3, c4, c5, nI_1 _, fun k hk => ?_, c8, c9⟩, ?_⟩
            · show aM a + 1 ≤ 2
              omega
            · show (if k = aM a then x else aF a k) < vN v ∧ (if k = aM a then y else aT a k) < vN v ∧ (if k = aM a then x else aF a k) ≠ (if k = aM a then y else aT a k) ∧ 1 ≤ (if k = aM a then g else aL a k) ∧ (if k = aM a then g else aL a k) ≤ 20
              by_cases h : k = aM a
              · simp only [if_pos h]
                exact ⟨hx, hy, hne, hg1, hg2⟩
              · simp only [if_neg h]
                have hk' : k < aM a + 1 := hk
                exact o7 k (by omega)
            · show upd _ (aM a) (nI g) k = nI (if k = aM a then g else aL a k) ∧ upd _ (aM a) (nI x) k = nI (if k = aM a then x else aF a k) ∧ upd _ (aM a) (nI y) k = nI (if k = aM a then y else aT a k)
              by_cases h : k = aM a
              · simp only [if_pos h, upd_eq h]
                exact ⟨trivial, trivial, trivial⟩
              · simp only [if_neg h, upd_ne h]
                have hk' : k < aM a + 1 := hk
                exact c7 k (by omega)
            · refine ⟨(F 0 (by omega) (by omega) (by omega) (by omega)).trans f1, (F 1 (by omega) (by omega) (by omega) (by omega)).trans f2, (F 2 (by omega) (by omega) (by omega) (by omega)).trans f3, (F 3 (by omega) (by omega) (by omega) (by omega)).trans f4, fun w hw => (F _ (by omega) (by omega) (by omega) (by omega)).trans (f5 w hw), fun w hw => (F _ (by omega) (by omega) (by omega) (by omega)).trans (f6 w hw), hfin.trans (nI_1 _), fun k hk => ?_, fun w hw => (F _ (by omega) (by omega) (by omega) (by omega)).trans (f9 w hw)⟩
              have hk' : k < aM a + 1 := hk
              show upd _ 16 _ (17 + 3 * k) = nI (if k = aM a then x else aF a k) ∧ upd _ 16 _ (18 + 3 * k) = nI (if k = aM a then y else aT a k) ∧ upd _ 16 _ (19 + 3 * k) = nI (if k = aM a then g else aL a k)
              by_cases h : k = aM a
              · subst h
                rw [if_pos rfl, if_pos rfl, if_pos rfl]
                refine ⟨?_, ?_, ?_⟩
                · rw [upd_ne (by omega), upd_ne (by omega), upd_ne (by omega), upd_eq rfl]
                · rw [upd_ne (by omega), upd_ne (by omega), upd_eq rfl]
                · rw [upd_ne (by omega), upd_eq rfl]
              · rw [if_neg h, if_neg h, if_neg h]
                obtain ⟨q1, q2, q3⟩ := f8 k (by omega)
                exact ⟨(F _ (by omega) (by omega) (by omega) (by omega)).trans q1, (F _ (by omega) (by omega) (by omega) (by omega)).trans q2, (F _ (by omega) (by omega) (by omega) (by omega)).trans q3⟩
        · simp only [e1, e2, e3, e4, e5, e6, ob_some, if_neg ne10, if_neg hxy, if_true]
          exact ⟨_, _, rfl, rfl, rfl, hI⟩
    · simp only [e1, e2, e3, e4, ob_some, if_neg ne10, if_true]
      exact ⟨_, _, rfl, rfl, rfl, hI⟩
  · simp only [e1, e2, ob_some, if_true]
    exact ⟨_, _, rfl, rfl, rfl, hI⟩
