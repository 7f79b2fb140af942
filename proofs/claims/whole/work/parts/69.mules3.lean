abbrev WO : Type := Option (Int32 × Int32 × Int32 × Int32 × Int32 × Int32 × Int32 × (Nat → Int32) × (Nat → Int32) × (Nat → Int32) × (Nat → Int32) × (Nat → Int32))
theorem pair_loop {N : Nat} (hN : 400 ≤ N) {n R D g x B : Nat} {W : Nat → Nat → Nat} {len many s slow : Nat → Int32} {a : AN} (hv : RW n R W len many) (hx : x < 6) (hM : aM a ≤ 2) (hg1 : 1 ≤ g) (hg2 : g ≤ 20) (hs : Wk n a s x B) (hb : ∀ x y, Hn W R a x y ≤ 20) (hD : D < 64) (hB : ∀ y, y < 6 → D.testBit y = aD a y) (hsl : ∀ y, y < n → slow y = nI (aS a y)) (K92 : Int32 → Int32 → Int32 → Int32 → Int32 → Int32 → (Nat → Int32) → (Nat → Int32) → (Nat → Int32) → (Nat → Int32) → (Nat → Int32) → WO) (K111 : Int32 → Int32 → Int32 → Int32 → (Nat → Int32) → (Nat → Int32) → (Nat → Int32) → (Nat → Int32) → (Nat → Int32) → WO) (K162 : Int32 → Int32 → (Nat → Int32) → MO) (K197 : (Nat → Int32) → MO) : ∀ (r k fu fu2 : Nat) (e rf rs rb : Int32) (gap hear mA mB next w : Nat → Int32), 36 - k = r → k ≤ 36 → r < fu → r < fu2 → Cs n R W a gap hear next → ∃ (e' rf' rs' rb' : Int32) (gap' hear' mA' mB' next' w' : Nat → Int32), ((∃ i j, i < 36 ∧ j < 36 ∧ two n i ∧ fX0_fewestMules_L43 N (nI x) (nI g) (nI n) (nI D) slow K92 K111 fu (nI k) e rf rs rb gap hear mA mB next = K92 (nI i) (nI j) e' rf' rs' rb' gap' hear' mA' mB' next' ∧ fX12_mules_L116 N (nI g) len many s K162 K197 fu2 (nI k) w = K162 (nI i) (nI j) w') ∨ (fX0_fewestMules_L43 N (nI x) (nI g) (nI n) (nI D) slow K92 K111 fu (nI k) e rf rs rb gap hear mA mB next = K111 e' rf' rs' rb' gap' hear' mA' mB' next' ∧ fX12_mules_L116 N (nI g) len many s K162 K197 fu2 (nI k) w = K197 w')) := by
  have hn : n ≤ 6 := hv.1
  have hm0 : many 0 = nI n := hv.2.2.2.2.2.2.1
  intro r
  induction r with
  | zero =>
    intro k fu fu2 e rf rs rb gap hear mA mB next w h1 h2 h3 h3' hc
    have hk : k = 36 := by omega
    subst hk
    obtain ⟨fu, rfl⟩ : ∃ g, fu = g + 1 := ⟨fu - 1, by omega⟩
    obtain ⟨fu2, rfl⟩ : ∃ g, fu2 = g + 1 := ⟨fu2 - 1, by omega⟩
    unfold fX0_fewestMules_L43 fX0_fewestMules_43 fX12_mules_L116 fX12_mules_116
    rw [if_pos (show (36 : Int32) ≤ nI 36 by decide), if_pos (show (36 : Int32) ≤ nI 36 by decide)]
    exact ⟨_, _, _, _, _, _, _, _, _, _, Or.inr ⟨rfl, rfl⟩⟩
  | succ r ih =>
    intro k fu fu2 e rf rs rb gap hear mA mB next w h1 h2 h3 h3' hc
    obtain ⟨fu, rfl⟩ : ∃ g, fu = g + 1 := ⟨fu - 1, by omega⟩
    obtain ⟨fu2, rfl⟩ : ∃ g, fu2 = g + 1 := ⟨fu2 - 1, by omega⟩
    have hk : k < 36 := by omega
    unfold fX0_fewestMules_L43 fX0_fewestMules_43 fX12_mules_L116 fX12_mules_116 fX0_fewestMules_105
    rw [if_neg (show ¬ (36 : Int32) ≤ nI k from nI_ge (b := 36) hk (by omega)), if_neg (show ¬ (36 : Int32) ≤ nI k from nI_ge (b := 36) hk (by omega)), lti_eq, nI_1]
    rcases two_ok (many := many) hn hk hm0 with ⟨t0, t1, t2⟩ | ⟨t0, t1, t2⟩
    · obtain ⟨gap1, hear1, next1, q1, q2⟩ := lend_ok (N := N) (a := a) (g := g) (slow := slow) (by omega) hn hk hg2 hb hD hB hc hsl
      have hb' : ∀ x y, Hn W R (addM a k g) x y ≤ 20 := fun x y => by
        rw [Hn_addM]
        have := hb x y
        split <;> omega
      obtain ⟨e1, rf1, rs1, rb1, gap2, hear2, mA2, mB2, next2, w2, q3, q4⟩ := two_loop hN (slow := slow) (len := len) (many := many) hv hx hM hg1 hg2 hs hk t0 hb' hD hB hsl (fun l4k3_51 v1 v2 v3 v4 g5 h5 a5 b5 n5 => some (l4k3_51, v1, v2, v3, v4, g5, h5, a5, b5, n5)) (fun v1 v2 v3 v4 g5 h5 a5 b5 n5 => some (-1, v1, v2, v3, v4, g5, h5, a5, b5, n5)) (fun l4 w => K162 (nI k) l4 w) (fun w => fX12_mules_L116 N (nI g) len many s K162 K197 fu2 (nI (k + 1)) w) (36 - (k + 1)) (k + 1) N N e rf rs rb gap1 hear1 mA mB next1 w rfl (by omega) (by omega) (by omega) q2
      obtain ⟨gap3, hear3, next3, q5, q6⟩ := takeBack_ok (N := N) (a := a) (slow := slow) (by omega) hn hk hb q3 hsl
      rw [t2, ob_some, if_neg ne10, q1, ob_some]
      unfold fX0_firstThatHelps
      rcases q4 with ⟨i, hi, ti, q7, q8⟩ | ⟨q7, q8⟩
      · rw [q7, q8, ob_some, q5, ob_some, if_neg (m1_ne (by omega))]
        exact ⟨_, _, _, _, _, _, _, _, _, _, Or.inl ⟨k, i, hk, hi, t0, rfl, rfl⟩⟩
      · rw [q7, q8, ob_some, q5, ob_some, if_pos rfl]
        exact ih (k + 1) fu fu2 _ _ _ _ _ _ _ _ _ _ (by omega) (by omega) (by omega) (by omega) q6
    · rw [t2, ob_some, if_pos rfl, skip_loop hn hm0 hk t0 _ _ w (36 - (k + 1)) (k + 1) N rfl (by omega) (by omega)]
      exact ih (k + 1) fu fu2 _ _ _ _ _ _ _ _ _ _ (by omega) (by omega) (by omega) (by omega) hc
