/-! ===== pure: fastest ===== -/
abbrev FO : Type := Option (Int32 × Int32 × Int32 × Int32 × Int32 × Int32 × Int32 × (Nat → Int32) × (Nat → Int32) × (Nat → Int32) × (Nat → Int32) × (Nat → Int32) × (Nat → Int32))
theorem Wk_place {n : Nat} {a : AN} {f : Nat → Int32} {x b y : Nat} (h : Wk n a f x b) : Wk n a (upd f 2 (nI y)) y b := by
  obtain ⟨⟨f3, g1, fd, f16, hM, fm, hm⟩, h2, h3, h4⟩ := h
  refine ⟨⟨(upd_ne (by omega)).trans f3, g1, fun v hv => (upd_ne (by omega)).trans (fd v hv), (upd_ne (by omega)).trans f16, hM, fun k hk => ?_, hm⟩, fun z hz => (upd_ne (by omega)).trans (h2 z hz), upd_eq rfl, (upd_ne (by omega)).trans h4⟩
  obtain ⟨q1, q2, q3⟩ := fm k hk
  exact ⟨(upd_ne (by omega)).trans q1, (upd_ne (by omega)).trans q2, (upd_ne (by omega)).trans q3⟩
theorem Wk_as {n : Nat} {a : AN} {f : Nat → Int32} {s : Nat → Int32} {x b : Nat} (e : ∀ j, j < 35 → f j = s j) (h : Wk n a s x b) : Wk n a f x b := by
  obtain ⟨⟨f3, g1, fd, f16, hM, fm, hm⟩, h2, h3, h4⟩ := h
  refine ⟨⟨(e 3 (by omega)).trans f3, g1, fun v hv => (e _ (by omega)).trans (fd v hv), (e 16 (by omega)).trans f16, hM, fun k hk => ?_, hm⟩, fun z hz => (e _ (by omega)).trans (h2 z hz), (e 2 (by omega)).trans h3, (e 1 (by omega)).trans h4⟩
  obtain ⟨q1, q2, q3⟩ := fm k hk
  exact ⟨(e _ (by omega)).trans q1, (e _ (by omega)).trans q2, (e _ (by omega)).trans q3⟩
theorem fa_loop {N : Nat} (hN : 400 ≤ N) {n R : Nat} {W : Nat → Nat → Nat} {len many s : Nat → Int32} {a : AN} {x0 B : Nat} (hv : RW n R W len many) (hs : Wk n a s x0 B) {gap next : Nat → Int32} (hc : CN n (aS a) (Hn W R a) gap next) (KC : Int32 → Int32 → Int32 → Int32 → Int32 → (Nat → Int32) → (Nat → Int32) → FO) (KF : Int32 → (Nat → Int32) → (Nat → Int32) → (Nat → Int32) → (Nat → Int32) → Option (Int32 × Int32 × (Nat → Int32) × (Nat → Int32) × (Nat → Int32) × (Nat → Int32))) : ∀ (r k fu : Nat) (l1 l2 l3 l2' l3' : Int32) (e rf rs rb : Int32) (mA mB mA' mB' rd w : Nat → Int32), n - k = r → k ≤ n → r < fu → (l1 = -9 ∨ (l2 = l3' ∧ l3 = l2')) → ∃ (l : Int32) (e1 rf1 rs1 rb1 : Int32) (mA1 mB1 mA1' mB1' rd1 w1 : Nat → Int32), fX11_fastest_L14 N (nI n) gap next KC fu l1 l2 l3 (nI k) e rf rs rb mA mB = KC l e1 rf1 rs1 rb1 mA1 mB1 ∧ fX12_fastest_L15 N len many s KF fu l1 l2' l3' (nI k) mA' mB' rd w = KF l mA1' mB1' rd1 w1 := by
  have hn : n ≤ 6 := hv.1
  have hm0 : many 0 = nI n := hv.2.2.2.2.2.2.1
  intro r
  induction r with
  | zero =>
    intro k fu l1 l2 l3 l2' l3' e rf rs rb mA mB mA' mB' rd w h1 h2 h3 h4
    have hk : k = n := by omega
    subst hk
    obtain ⟨fu, rfl⟩ : ∃ g, fu = g + 1 := ⟨fu - 1, by omega⟩
    unfold fX11_fastest_L14 fX11_fastest_14 fX12_fastest_L15 fX12_fastest_15
    rw [hm0, if_pos (nI_le (Nat.le_refl _) (by omega)), if_pos (nI_le (Nat.le_refl _) (by omega))]
    exact ⟨_, _, _, _, _, _, _, _, _, _, _, rfl, rfl⟩
  | succ r ih =>
    intro k fu l1 l2 l3 l2' l3' e rf rs rb mA mB mA' mB' rd w h1 h2 h3 h4
    obtain ⟨fu, rfl⟩ : ∃ g, fu = g + 1 := ⟨fu - 1, by omega⟩
    have hk : k < n := by omega
    have hk6 : k < 6 := by omega
    have hx0 : n ≠ 0 := by omega
    obtain ⟨w2, q1, q2⟩ := asNow_ok hN s w
    have hw : Wk n a (upd w2 2 (nI k)) k B := Wk_place (Wk_as q2 hs)
    unfold fX11_fastest_L14 fX11_fastest_14 fX12_fastest_L15 fX12_fastest_15
    rw [hm0, if_neg (nI_ge hk (by omega)), if_neg (nI_ge hk (by omega)), q1, ob_some, lti_eq]
    unfold fX11_fastest_87 fX11_fastest_68 fX11_fastest_87 fX12_fastest_95 fX12_fastest_78 fX12_fastest_95
    rcases goesOn_ok (N := N) (by omega) hn hk6 hc e rf rs rb mA mB with ⟨j, mA2, mB2, r1, r2⟩ | ⟨i, j, mA2, mB2, r1, r2⟩
    · obtain ⟨mA3, mB3, f3, e3⟩ := isRound_end hN hv hx0 hk6 r1 hw mA' mB' rd
      rw [r2, e3, ob_some, ob_some]
      simp only [if_true, nI_1]
      exact ih (k + 1) fu l1 l2 l3 l2' l3' _ _ _ _ _ _ _ _ _ _ (by omega) (by omega) (by omega) h4
    · obtain ⟨mA3, mB3, f3, m3, e3, s0, s1, s2⟩ := isRound_rnd hN hv hx0 hk6 r1 hw mA' mB' rd
      rw [r2, e3, ob_some, ob_some]
      simp only [if_neg ne10, nI_1, lti_eq, s1, s2]
      by_cases h5 : l1 = -9
      · rw [if_pos h5, if_pos h5]
        exact ih (k + 1) fu _ _ _ _ _ _ _ _ _ _ _ _ _ _ _ (by omega) (by omega) (by omega) (Or.inr ⟨rfl, rfl⟩)
      · rcases h4 with h4 | ⟨rfl, rfl⟩
        · exact absurd h4 h5
        · rw [if_neg h5, if_neg h5]
          by_cases h6 : l3 * (nI j - nI i) ≤ (nI (pw (Hn W R a) (aS a) n k j).2 - nI (pw (Hn W R a) (aS a) n k i).2) * l2
          · rw [if_pos h6, if_pos h6]
            exact ih (k + 1) fu _ _ _ _ _ _ _ _ _ _ _ _ _ _ _ (by omega) (by omega) (by omega) (Or.inr ⟨rfl, rfl⟩)
          · rw [if_neg h6, if_neg h6]
            exact ih (k + 1) fu _ _ _ _ _ _ _ _ _ _ _ _ _ _ _ (by omega) (by omega) (by omega) (Or.inr ⟨rfl, rfl⟩)
theorem sim_fastest {N : Nat} (hN : 400 ≤ N) : Sim_fastest N Inv := by
  intro d m hI
  obtain ⟨hT, hK, hB, v, hV, hS, hP, hIm, hH⟩ := id hI
  have hV' := hV
  obtain ⟨hOk, n1, n2, -⟩ := hV'
  have hn := hOk.1
  obtain ⟨a, hA, hC, hF⟩ := hS
  obtain ⟨D, gap', hear', next', slow', hD, hB', q1, q2, q3, q4⟩ := now_lay (N := N) (by omega) hV hA hC ((dC d).2.2.2.2.2.2.2.2.1) ((dC d).2.2.2.2.2.2.2.2.2.1) ((dC d).2.2.2.2.2.2.2.2.2.2.2.2.1) ((dC d).2.2.2.2.2.2.2.2.2.2.2.2.2)
  unfold fX11_fastest fX12_fastest
  rw [q1, ob_some, n1]
  obtain ⟨l, e1, rf1, rs1, rb1, mA1, mB1, mA1', mB1', rd1, w1, t1, t2⟩ := fa_loop hN (mkRW hV) (mkWk hA hF) q3 (fun l1k14_93 v_a0_course_endsInk14_93 v_a0_course_roundFromk14_93 v_a0_course_roundStrokesk14_93 v_a0_course_roundBeatsk14_93 m_a0_course_metAtk14_93 m_a0_course_metBeatk14_93 => some (l1k14_93, v_a0_course_endsInk14_93, v_a0_course_roundFromk14_93, v_a0_course_roundStrokesk14_93, v_a0_course_roundBeatsk14_93, nI (vN v), nI D, gap', hear', m_a0_course_metAtk14_93, m_a0_course_metBeatk14_93, next', slow')) (fun l1k15_101 m_a0_metAtk15_101 m_a0_metBeatk15_101 m_a0_roundk15_101 m_a0_wk15_101 => some (l1k15_101, 0, m_a0_metAtk15_101, m_a0_metBeatk15_101, m_a0_roundk15_101, m_a0_wk15_101)) (vN v) 0 N (-9) 0 0 0 1 ((dC d).1) ((dC d).2.1) ((dC d).2.2.1) ((dC d).2.2.2.1) ((dC d).2.2.2.2.2.2.2.2.2.2.1) ((dC d).2.2.2.2.2.2.2.2.2.2.2.1) (m_metAt m) (m_metBeat m) (m_round m) (m_w m) (by omega) (by omega) (by omega) (Or.inl rfl)
  exact ⟨_, _, t1, t2, rfl, hI⟩
