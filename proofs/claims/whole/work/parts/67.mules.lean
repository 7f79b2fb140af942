/-! ===== pure: the fewest mules ===== -/
def two (n i : Nat) : Prop := i / 6 < n ∧ i % 6 < n ∧ i / 6 ≠ i % 6
theorem two_ok {n i : Nat} {many : Nat → Int32} (hn : n ≤ 6) (hi : i < 36) (hm : many 0 = nI n) : (two n i ∧ fX12_isTwo (nI i) many = some 1 ∧ fX0_isPairOfTwo (nI i) (nI n) = some 1) ∨ (¬ two n i ∧ fX12_isTwo (nI i) many = some 0 ∧ fX0_isPairOfTwo (nI i) (nI n) = some 0) := by
  unfold fX12_isTwo fX0_isPairOfTwo fX12_isTwo_41 fX12_isTwo_42 fX0_isPairOfTwo_35 fX0_isPairOfTwo_36
  rw [mod6 hi, div6 hi, hm]
  simp only [lti_eq, bz0, bz1]
  by_cases h1 : i / 6 = i % 6
  · right
    rw [if_pos (by rw [h1])]
    exact ⟨fun c => c.2.2 h1, rfl, rfl⟩
  · rw [if_neg (nI_ne (by omega) (by omega) h1)]
    by_cases h2 : i / 6 < n
    · rw [if_neg (nI_ge h2 (by omega))]
      by_cases h3 : i % 6 < n
      · left
        rw [if_neg (nI_ge h3 (by omega))]
        exact ⟨⟨h2, h3, h1⟩, rfl, rfl⟩
      · right
        rw [if_pos (show nI n ≤ nI (i % 6) from nI_le (by omega) (by omega))]
        exact ⟨fun c => h3 c.2.1, rfl, rfl⟩
    · right
      rw [if_pos (show nI n ≤ nI (i / 6) from nI_le (by omega) (by omega))]
      exact ⟨fun c => h2 c.1, rfl, rfl⟩
theorem e46_end {N : Nat} (hN : 10 ≤ N) {n R x k B : Nat} {W : Nat → Nat → Nat} {len many f : Nat → Int32} {a : AN} (hv : RW n R W len many) (hx0 : n ≠ 0) (hx : x < 6) (hE : Ends (Hn W R a) (aS a) n x k) (hf : Wk n a f x B) : ∃ f', fX12_isEndless_46 N len many f = some (0, f') := by
  obtain ⟨f', e⟩ := endsIn_end hN hv hx0 hx hE hf
  have := hE.1
  unfold fX12_isEndless_46 fX12_isEndless_64
  rw [e, ob_some, if_neg (m9_ne (by omega)), bz0]
  exact ⟨_, rfl⟩
theorem e46_rnd {N : Nat} (hN : 10 ≤ N) {n R x i k B : Nat} {W : Nat → Nat → Nat} {len many f : Nat → Int32} {a : AN} (hv : RW n R W len many) (hx0 : n ≠ 0) (hx : x < 6) (hE : Rnd (Hn W R a) (aS a) n x i k) (hf : Wk n a f x B) : ∃ f', fX12_isEndless_46 N len many f = some (1, f') := by
  obtain ⟨f', e⟩ := endsIn_rnd hN hv hx0 hx hE hf
  unfold fX12_isEndless_46 fX12_isEndless_64
  rw [e, ob_some, if_pos rfl, bz1]
  exact ⟨_, rfl⟩
theorem isE0 {N : Nat} (hN : 400 ≤ N) {n x b : Nat} {len many s : Nat → Int32} {a : AN} (hs : Wk n a s x b) (g : Int32) (w : Nat → Int32) : ∃ f', Wk n a f' x b ∧ fX12_isEndless N (-1) (-1) g len many s w = fX12_isEndless_46 N len many f' := by
  obtain ⟨w2, q1, q2⟩ := asNow_ok hN s w
  unfold fX12_isEndless fX12_isEndless_25
  rw [q1, ob_some, if_pos (by decide), if_pos (by decide)]
  exact ⟨w2, Wk_as q2 hs, rfl⟩
theorem isE1 {N : Nat} (hN : 400 ≤ N) {n x b i g : Nat} {len many s : Nat → Int32} {a : AN} (hn : n ≤ 6) (hM : aM a ≤ 2) (hi : i < 36) (h2 : two n i) (hg1 : 1 ≤ g) (hg2 : g ≤ 20) (hs : Wk n a s x b) (w : Nat → Int32) : ∃ f', Wk n (addM a i g) f' x b ∧ fX12_isEndless N (nI i) (-1) (nI g) len many s w = fX12_isEndless_46 N len many f' := by
  obtain ⟨w2, q1, q2⟩ := asNow_ok hN s w
  obtain ⟨f', e1, e2⟩ := sent_ok hn (by omega) hi h2.1 h2.2.1 h2.2.2 hg1 hg2 (Wk_as q2 hs)
  unfold fX12_isEndless fX12_isEndless_25
  rw [q1, ob_some, if_neg (nI_pos (by omega)), e1, ob_some, if_pos (by decide)]
  exact ⟨f', e2, rfl⟩
theorem isE2 {N : Nat} (hN : 400 ≤ N) {n x b i j g : Nat} {len many s : Nat → Int32} {a : AN} (hn : n ≤ 6) (hM : aM a ≤ 2) (hi : i < 36) (hj : j < 36) (h2 : two n i) (h3 : two n j) (hg1 : 1 ≤ g) (hg2 : g ≤ 20) (hs : Wk n a s x b) (w : Nat → Int32) : ∃ f', Wk n (addM (addM a i g) j g) f' x b ∧ fX12_isEndless N (nI i) (nI j) (nI g) len many s w = fX12_isEndless_46 N len many f' := by
  obtain ⟨w2, q1, q2⟩ := asNow_ok hN s w
  obtain ⟨f', e1, e2⟩ := sent_ok hn (by omega) hi h2.1 h2.2.1 h2.2.2 hg1 hg2 (Wk_as q2 hs)
  obtain ⟨f2, e3, e4⟩ := sent_ok (a := addM a i g) hn (show aM a + 1 ≤ 3 by omega) hj h3.1 h3.2.1 h3.2.2 hg1 hg2 e2
  unfold fX12_isEndless fX12_isEndless_25
  rw [q1, ob_some, if_neg (nI_pos (by omega)), e1, ob_some, if_neg (nI_pos (by omega)), e3, ob_some]
  exact ⟨f2, e4, rfl⟩
abbrev HO : Type := Option (Int32 × Int32 × Int32 × Int32 × Int32 × (Nat → Int32) × (Nat → Int32) × (Nat → Int32) × (Nat → Int32) × (Nat → Int32))
abbrev MO : Type := Option (Int32 × Int32 × (Nat → Int32))
theorem one_loop {N : Nat} (hN : 400 ≤ N) {n R D g x B : Nat} {W : Nat → Nat → Nat} {len many s slow : Nat → Int32} {a : AN} (hv : RW n R W len many) (hx : x < 6) (hM : aM a ≤ 2) (hg1 : 1 ≤ g) (hg2 : g ≤ 20) (hs : Wk n a s x B) (hb : ∀ x y, Hn W R (a) x y ≤ 20) (hD : D < 64) (hB : ∀ y, y < 6 → D.testBit y = aD a y) (hsl : ∀ y, y < n → slow y = nI (aS a y)) (K51 : Int32 → Int32 → Int32 → Int32 → Int32 → (Nat → Int32) → (Nat → Int32) → (Nat → Int32) → (Nat → Int32) → (Nat → Int32) → HO) (K60 : Int32 → Int32 → Int32 → Int32 → (Nat → Int32) → (Nat → Int32) → (Nat → Int32) → (Nat → Int32) → (Nat → Int32) → HO) (K85 : Int32 → (Nat → Int32) → MO) (K114 : (Nat → Int32) → MO) : ∀ (r k fu fu2 : Nat) (e rf rs rb : Int32) (gap hear mA mB next w : Nat → Int32), 36 - k = r → k ≤ 36 → r < fu → r < fu2 → Cs n R W (a) gap hear next → ∃ (e' rf' rs' rb' : Int32) (gap' hear' mA' mB' next' w' : Nat → Int32), Cs n R W (a) gap' hear' next' ∧ ((∃ i, i < 36 ∧ two n i ∧ fX0_firstThatHelps_L3 N (nI x) (nI g) (nI n) (nI D) slow K51 K60 fu (nI k) e rf rs rb gap hear mA mB next = K51 (nI i) e' rf' rs' rb' gap' hear' mA' mB' next' ∧ fX12_mules_L61 N (nI g) len many s K85 K114 fu2 (nI k) w = K85 (nI i) w') ∨ (fX0_firstThatHelps_L3 N (nI x) (nI g) (nI n) (nI D) slow K51 K60 fu (nI k) e rf rs rb gap hear mA mB next = K60 e' rf' rs' rb' gap' hear' mA' mB' next' ∧ fX12_mules_L61 N (nI g) len many s K85 K114 fu2 (nI k) w = K114 w')) := by
  have hn : n ≤ 6 := hv.1
  have hm0 : many 0 = nI n := hv.2.2.2.2.2.2.1
  intro r
  induction r with
  | zero =>
    intro k fu fu2 e rf rs rb gap hear mA mB next w h1 h2 h3 h3' hc
    have hk : k = 36 := by omega
    subst hk
    obtain ⟨fu, rfl⟩ : ∃ g, fu = g + 1 := ⟨fu - 1, by omega⟩
    obtain ⟨fu2, rfl⟩ : ∃ g, fu2 = g + 1 := ⟨fu2 - 1, by omega⟩
    unfold fX0_firstThatHelps_L3 fX0_firstThatHelps_3 fX12_mules_L61 fX12_mules_61
    rw [if_pos (show (36 : Int32) ≤ nI 36 by decide), if_pos (show (36 : Int32) ≤ nI 36 by decide)]
    exact ⟨_, _, _, _, _, _, _, _, _, _, hc, Or.inr ⟨rfl, rfl⟩⟩
  | succ r ih =>
    intro k fu fu2 e rf rs rb gap hear mA mB next w h1 h2 h3 h3' hc
    obtain ⟨fu, rfl⟩ : ∃ g, fu = g + 1 := ⟨fu - 1, by omega⟩
    obtain ⟨fu2, rfl⟩ : ∃ g, fu2 = g + 1 := ⟨fu2 - 1, by omega⟩
    have hk : k < 36 := by omega
    unfold fX0_firstThatHelps_L3 fX0_firstThatHelps_3 fX12_mules_L61 fX12_mules_61 fX0_firstThatHelps_54 fX12_mules_108
    rw [if_neg (show ¬ (36 : Int32) ≤ nI k from nI_ge (b := 36) hk (by omega)), if_neg (show ¬ (36 : Int32) ≤ nI k from nI_ge (b := 36) hk (by omega)), nI_1]
    rcases two_ok (many := many) hn hk hm0 with ⟨t0, t1, t2⟩ | ⟨t0, t1, t2⟩
    · have hx0 : n ≠ 0 := by have := t0.1; omega
      obtain ⟨gap1, hear1, next1, q1, q2⟩ := lend_ok (N := N) (a := a) (g := g) (slow := slow) (by omega) hn hk hg2 hb hD hB hc hsl
      obtain ⟨gap2, hear2, next2, q3, q4⟩ := takeBack_ok (N := N) (a := a) (slow := slow) (by omega) hn hk hb q2 hsl
      obtain ⟨f1, q5, q6⟩ := isE1 (g := g) (len := len) (many := many) hN hn hM hk t0 hg1 hg2 hs w
      rw [t1, t2, ob_some, ob_some, if_neg ne10, if_neg ne10, q1, ob_some, q6]
      rcases goesOn_ok (N := N) (by omega) hn hx q2.2 e rf rs rb mA mB with ⟨j, mA2, mB2, r1, r2⟩ | ⟨i, j, mA2, mB2, r1, r2⟩
      · obtain ⟨f', e3⟩ := e46_end (N := N) (by omega) hv hx0 hx r1 q5
        rw [r2, e3, ob_some, ob_some, q3, ob_some]
        simp only [if_true]
        exact ih (k + 1) fu fu2 _ _ _ _ _ _ _ _ _ _ (by omega) (by omega) (by omega) (by omega) q4
      · obtain ⟨f', e3⟩ := e46_rnd (N := N) (by omega) hv hx0 hx r1 q5
        rw [r2, e3, ob_some, ob_some, q3, ob_some]
        simp only [if_neg ne10]
        exact ⟨_, _, _, _, _, _, _, _, _, _, q4, Or.inl ⟨k, hk, t0, rfl, rfl⟩⟩
    · rw [t1, t2, ob_some, ob_some, if_pos rfl, if_pos rfl]
      exact ih (k + 1) fu fu2 _ _ _ _ _ _ _ _ _ _ (by omega) (by omega) (by omega) (by omega) hc
theorem two_loop {N : Nat} (hN : 400 ≤ N) {n R D g x B : Nat} {W : Nat → Nat → Nat} {len many s slow : Nat → Int32} {a : AN} (hv : RW n R W len many) (hx : x < 6) (hM : aM a ≤ 2) (hg1 : 1 ≤ g) (hg2 : g ≤ 20) (hs : Wk n a s x B) {i0 : Nat} (hi0 : i0 < 36) (ht0 : two n i0) (hb : ∀ x y, Hn W R (addM a i0 g) x y ≤ 20) (hD : D < 64) (hB : ∀ y, y < 6 → D.testBit y = aD a y) (hsl : ∀ y, y < n → slow y = nI (aS a y)) (K51 : Int32 → Int32 → Int32 → Int32 → Int32 → (Nat → Int32) → (Nat → Int32) → (Nat → Int32) → (Nat → Int32) → (Nat → Int32) → HO) (K60 : Int32 → Int32 → Int32 → Int32 → (Nat → Int32) → (Nat → Int32) → (Nat → Int32) → (Nat → Int32) → (Nat → Int32) → HO) (K162 : Int32 → (Nat → Int32) → MO) (K191 : (Nat → Int32) → MO) : ∀ (r k fu fu2 : Nat) (e rf rs rb : Int32) (gap hear mA mB next w : Nat → Int32), 36 - k = r → k ≤ 36 → r < fu → r < fu2 → Cs n R W (addM a i0 g) gap hear next → ∃ (e' rf' rs' rb' : Int32) (gap' hear' mA' mB' next' w' : Nat → Int32), Cs n R W (addM a i0 g) gap' hear' next' ∧ ((∃ i, i < 36 ∧ two n i ∧ fX0_firstThatHelps_L3 N (nI x) (nI g) (nI n) (nI D) slow K51 K60 fu (nI k) e rf rs rb gap hear mA mB next = K51 (nI i) e' rf' rs' rb' gap' hear' mA' mB' next' ∧ fX12_mules_L127 N (nI g) (nI i0) len many s K162 K191 fu2 (nI k) w = K162 (nI i) w') ∨ (fX0_firstThatHelps_L3 N (nI x) (nI g) (nI n) (nI D) slow K51 K60 fu (nI k) e rf rs rb gap hear mA mB next = K60 e' rf' rs' rb' gap' hear' mA' mB' next' ∧ fX12_mules_L127 N (nI g) (nI i0) len many s K162 K191 fu2 (nI k) w = K191 w')) := by
  have hn : n ≤ 6 := hv.1
  have hm0 : many 0 = nI n := hv.2.2.2.2.2.2.1
  intro r
  induction r with
  | zero =>
    intro k fu fu2 e rf rs rb gap hear mA mB next w h1 h2 h3 h3' hc
    have hk : k = 36 := by omega
    subst hk
    obtain ⟨fu, rfl⟩ : ∃ g, fu = g + 1 := ⟨fu - 1, by omega⟩
    obtain ⟨fu2, rfl⟩ : ∃ g, fu2 = g + 1 := ⟨fu2 - 1, by omega⟩
    unfold fX0_firstThatHelps_L3 fX0_firstThatHelps_3 fX12_mules_L127 fX12_mules_127
    rw [if_pos (show (36 : Int32) ≤ nI 36 by decide), if_pos (show (36 : Int32) ≤ nI 36 by decide)]
    exact ⟨_, _, _, _, _, _, _, _, _, _, hc, Or.inr ⟨rfl, rfl⟩⟩
  | succ r ih =>
    intro k fu fu2 e rf rs rb gap hear mA mB next w h1 h2 h3 h3' hc
    obtain ⟨fu, rfl⟩ : ∃ g, fu = g + 1 := ⟨fu - 1, by omega⟩
    obtain ⟨fu2, rfl⟩ : ∃ g, fu2 = g + 1 := ⟨fu2 - 1, by omega⟩
    have hk : k < 36 := by omega
    unfold fX0_firstThatHelps_L3 fX0_firstThatHelps_3 fX12_mules_L127 fX12_mules_127 fX0_firstThatHelps_54 fX12_mules_185
    rw [if_neg (show ¬ (36 : Int32) ≤ nI k from nI_ge (b := 36) hk (by omega)), if_neg (show ¬ (36 : Int32) ≤ nI k from nI_ge (b := 36) hk (by omega)), nI_1]
    have u1 : fX12_isTwo (nI i0) many = some 1 := by
      rcases two_ok (many := many) hn hi0 hm0 with ⟨t0, t1, t2⟩ | ⟨t0, t1, t2⟩
      · exact t1
      · exact absurd ht0 t0
    rw [u1, ob_some, if_neg ne10]
    rcases two_ok (many := many) hn hk hm0 with ⟨t0, t1, t2⟩ | ⟨t0, t1, t2⟩
    · have hx0 : n ≠ 0 := by have := t0.1; omega
      obtain ⟨gap1, hear1, next1, q1, q2⟩ := lend_ok (N := N) (a := addM a i0 g) (g := g) (slow := slow) (by omega) hn hk hg2 hb hD hB hc hsl
      obtain ⟨gap2, hear2, next2, q3, q4⟩ := takeBack_ok (N := N) (a := addM a i0 g) (slow := slow) (by omega) hn hk hb q2 hsl
      obtain ⟨f1, q5, q6⟩ := isE2 (g := g) (len := len) (many := many) hN hn hM hi0 hk ht0 t0 hg1 hg2 hs w
      rw [t1, t2, ob_some, ob_some, if_neg ne10, if_neg ne10, q1, ob_some, q6]
      rcases goesOn_ok (N := N) (by omega) hn hx q2.2 e rf rs rb mA mB with ⟨j, mA2, mB2, r1, r2⟩ | ⟨i, j, mA2, mB2, r1, r2⟩
      · obtain ⟨f', e3⟩ := e46_end (N := N) (by omega) hv hx0 hx r1 q5
        rw [r2, e3, ob_some, ob_some, q3, ob_some]
        simp only [if_true]
        exact ih (k + 1) fu fu2 _ _ _ _ _ _ _ _ _ _ (by omega) (by omega) (by omega) (by omega) q4
      · obtain ⟨f', e3⟩ := e46_rnd (N := N) (by omega) hv hx0 hx r1 q5
        rw [r2, e3, ob_some, ob_some, q3, ob_some]
        simp only [if_neg ne10]
        exact ⟨_, _, _, _, _, _, _, _, _, _, q4, Or.inl ⟨k, hk, t0, rfl, rfl⟩⟩
    · rw [t1, t2, ob_some, ob_some, if_pos rfl, if_pos rfl]
      exact ih (k + 1) fu fu2 _ _ _ _ _ _ _ _ _ _ (by omega) (by omega) (by omega) (by omega) hc
