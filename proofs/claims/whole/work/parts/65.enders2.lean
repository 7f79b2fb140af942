/-! ===== pure: enders ===== -/
theorem or0 (x : Int32) : x ||| 0 = x := by simp
def setD (a : AN) (z : Nat) : AN := (aK a, aB a, aP a, aG a, aM a, aS a, (fun y => if y = z then true else aD a y), aF a, aT a, aL a, aX a)
theorem Hn_setD (W : Nat → Nat → Nat) (R : Nat) (a : AN) (z : Nat) : Hn W R (setD a z) = fun x y => if y = z then 0 else Hn W R a x y := by
  funext x y
  unfold Hn
  show (if (if y = z then true else aD a y) = true then 0 else mus (aF a) (aT a) (aL a) x y (aM a) (hw W R (aG a) x y)) = _
  by_cases h : y = z
  · rw [if_pos h, if_pos rfl, if_pos h]
  · rw [if_neg h, if_neg h]
theorem Wk_deaf {n : Nat} {a : AN} {f : Nat → Int32} {x b z : Nat} (hz : z < 6) (h : Wk n a f x b) : Wk n (setD a z) (upd f (10 + z) 1) x b := by
  obtain ⟨⟨f3, g1, fd, f16, hM, fm, hm⟩, h2, h3, h4⟩ := h
  refine ⟨⟨(upd_ne (by omega)).trans f3, g1, fun v hv => ?_, (upd_ne (by omega)).trans f16, hM, fun k hk => ?_, hm⟩, fun z hz => (upd_ne (by omega)).trans (h2 z hz), (upd_ne (by omega)).trans h3, (upd_ne (by omega)).trans h4⟩
  · show upd f (10 + z) 1 (10 + v) = if (if v = z then true else aD a v) = true then 1 else 0
    by_cases c : v = z
    · rw [upd_eq (by omega), if_pos c, if_pos rfl]
    · rw [upd_ne (by omega), if_neg c]; exact fd v hv
  · obtain ⟨q1, q2, q3⟩ := fm k hk
    have hk' : k < aM a := hk
    exact ⟨(upd_ne (by omega)).trans q1, (upd_ne (by omega)).trans q2, (upd_ne (by omega)).trans q3⟩
theorem si_loop {z : Nat} (hz : z < 6) (K : (Nat → Int32) → Option (Int32 × (Nat → Int32) × (Nat → Int32) × (Nat → Int32))) : ∀ (r k fu : Nat) (hear : Nat → Int32), 6 - k = r → k ≤ 6 → r < fu → ∃ hear', fX0_silence_L14 (nI z) K fu (nI k) hear = K hear' ∧ (∀ x y, x < 6 → y < 6 → hear' (6 * x + y) = if y = z ∧ k ≤ x then 0 else hear (6 * x + y)) := by
  intro r
  induction r with
  | zero =>
    intro k fu hear h1 h2 h3
    have hk : k = 6 := by omega
    subst hk
    obtain ⟨fu, rfl⟩ : ∃ g, fu = g + 1 := ⟨fu - 1, by omega⟩
    unfold fX0_silence_L14 fX0_silence_14
    rw [if_pos (show (6 : Int32) ≤ nI 6 by decide)]
    exact ⟨hear, rfl, fun x y hx hy => by rw [if_neg (by omega)]⟩
  | succ r ih =>
    intro k fu hear h1 h2 h3
    obtain ⟨fu, rfl⟩ : ∃ g, fu = g + 1 := ⟨fu - 1, by omega⟩
    have e0 : nI k * (6 : Int32) + nI z = nI (6 * k + z) := by simp only [litI, pk_mul, nI_add]; congr 1; omega
    unfold fX0_silence_L14 fX0_silence_14
    rw [if_neg (show ¬ (6 : Int32) ≤ nI k from nI_ge (b := 6) (by omega) (by omega)), e0, wri_at (j := 6 * k + z) rfl (by omega) (by omega), nI_1]
    obtain ⟨hear', q1, q2⟩ := ih (k + 1) fu (upd hear (6 * k + z) 0) (by omega) (by omega) (by omega)
    refine ⟨hear', q1, fun x y hx hy => ?_⟩
    rw [q2 x y hx hy]
    by_cases c : y = z ∧ k + 1 ≤ x
    · rw [if_pos c, if_pos (by omega)]
    · rw [if_neg c]
      by_cases c' : 6 * x + y = 6 * k + z
      · rw [upd_eq c', if_pos (by omega)]
      · rw [upd_ne c', if_neg (by omega)]
theorem silence_ok {N : Nat} (hN : 10 ≤ N) {n R D z : Nat} {W : Nat → Nat → Nat} {a : AN} {gap hear next slow : Nat → Int32} (hn : n ≤ 6) (hz : z < 6) (hb : ∀ x y, Hn W R a x y ≤ 20) (hh : CH (Hn W R a) hear) (hs : ∀ y, y < n → slow y = nI (aS a y)) : ∃ y9 gap' hear' next', fX0_silence N (nI z) (nI n) (nI D) gap hear next slow = some (y9, gap', hear', next') ∧ CN n (aS (setD a z)) (Hn W R (setD a z)) gap' next' := by
  unfold fX0_silence
  rw [lti_eq]
  obtain ⟨hear', q1, q2⟩ := si_loop hz (fun m_a0_hearingk14_38 => Option.bind (fX0_findAllNext N (nI n) gap m_a0_hearingk14_38 next slow) fun o39 =>
  some (nI D ||| (1 <<< (nI z &&& 31)), o39.1, m_a0_hearingk14_38, o39.2)) 6 0 N hear (by omega) (by omega) (by omega)
  rw [show nI 0 = (0 : Int32) from rfl] at q1
  rw [q1]
  have hh' : CH (Hn W R (setD a z)) hear' := fun x y hx hy => by
    rw [Hn_setD, q2 x y hx hy]
    show _ = nI (if y = z then 0 else Hn W R a x y)
    by_cases c : y = z
    · rw [if_pos ⟨c, Nat.zero_le _⟩, if_pos c]; rfl
    · rw [if_neg (fun q => c q.1), if_neg c]; exact hh x y hx hy
  obtain ⟨g', n', q5, q6⟩ := findAllNext_ok hN hn hh' hs (fun x y => by
    rw [Hn_setD]
    show (if y = z then 0 else Hn W R a x y) ≤ 20
    split
    · omega
    · exact hb x y) gap next
  rw [q5, ob_some]
  exact ⟨_, g', hear', n', rfl, q6⟩
theorem en_loop {N : Nat} (hN : 400 ≤ N) {d : DS} {m : MS} {v : AV} {a : AN} (hV : InvV d m v) (hA : OkA (vN v) a) (hC : RC (dS d) a) (hF : RF (m_s m) a) (KC : Int32 → Int32 → Int32 → Int32 → Int32 → Int32 → Int32 → (Nat → Int32) → (Nat → Int32) → (Nat → Int32) → (Nat → Int32) → (Nat → Int32) → (Nat → Int32) → FO) (KF : Int32 → (Nat → Int32) → Option (Int32 × Int32 × (Nat → Int32))) : ∀ (r k fu : Nat) (l e rf rs rb cv cd : Int32) (gap hear mA mB next slow w : Nat → Int32), vN v - k = r → k ≤ vN v → r < fu → ∃ (l' e' rf' rs' rb' cv' cd' : Int32) (gap' hear' mA' mB' next' slow' w' : Nat → Int32), fX11_enders_L4 N ((dS d).2.2.1) ((dS d).2.2.2.1) ((dS d).2.2.2.2.1) ((dS d).2.2.2.2.2.1) ((dV d).1) ((dV d).2.2.1) ((dS d).2.2.2.2.2.2.1) ((dS d).2.2.2.2.2.2.2.1) ((dS d).2.2.2.2.2.2.2.2.1) ((dS d).2.2.2.2.2.2.2.2.2.1) ((dV d).2.2.2.2.2.2.2) KC fu l (nI k) e rf rs rb cv cd gap hear mA mB next slow = KC l' e' rf' rs' rb' cv' cd' gap' hear' mA' mB' next' slow' ∧ fX12_enders_L9 N (m_lengths m) (m_many m) (m_s m) KF fu l (nI k) w = KF l' w' := by
  have hV' := hV
  obtain ⟨hOk, n1, n2, -⟩ := hV'
  have hn := hOk.1
  have hC' := hC
  obtain ⟨c1, c2, c3, c4, ⟨D, hD, c5, hB⟩, c6, c7, c8, c9⟩ := hC'
  have hP' : aP a < 6 := by rcases hA.2.2.1 with h | h <;> omega
  have hb : ∀ x y, Hn (vW v) (vR v) a x y ≤ 20 := fun x y => Hn_le (fun k h => (hA.2.2.2.2.2.2.1 k h).2.2.2.2) hOk.2.2.1
  intro r
  induction r with
  | zero =>
    intro k fu l e rf rs rb cv cd gap hear mA mB next slow w h1 h2 h3
    have hk : k = vN v := by omega
    subst hk
    obtain ⟨fu, rfl⟩ : ∃ g, fu = g + 1 := ⟨fu - 1, by omega⟩
    unfold fX11_enders_L4 fX11_enders_4 fX12_enders_L9 fX12_enders_9
    rw [if_pos (show (dV d).1 ≤ nI (vN v) by rw [n1]; exact nI_le (Nat.le_refl _) (by omega)), if_pos (show m_many m 0 ≤ nI (vN v) by rw [n2]; exact nI_le (Nat.le_refl _) (by omega))]
    exact ⟨_, _, _, _, _, _, _, _, _, _, _, _, _, _, rfl, rfl⟩
  | succ r ih =>
    intro k fu l e rf rs rb cv cd gap hear mA mB next slow w h1 h2 h3
    obtain ⟨fu, rfl⟩ : ∃ g, fu = g + 1 := ⟨fu - 1, by omega⟩
    have hk : k < vN v := by omega
    have hk6 : k < 6 := by omega
    have hx0 : vN v ≠ 0 := by omega
    obtain ⟨w2, q1, q2⟩ := asNow_ok hN (m_s m) w
    have hw : Wk (vN v) (setD a k) (upd w2 (10 + k) 1) (aP a) (aB a) := Wk_deaf hk6 (Wk_as q2 (mkWk hA hF))
    have i10 : (10 : Int32) + nI k = nI (10 + k) := by simp only [litI, nI_add]
    have hdk : m_s m (10 + k) = if aD a k then 1 else 0 := hF.2.2.2.2.2.1 k hk6
    have hbt : (((dS d).2.2.2.2.1 >>> (nI k &&& 31)) &&& 1) = if aD a k then 1 else 0 := by rw [c5, deaf_get hD hk6, hB k hk6]
    unfold fX11_enders_L4 fX11_enders_4 fX12_enders_L9 fX12_enders_9 fX11_enders_68 fX12_enders_65 fX12_enders_66
    rw [if_neg (show ¬ (dV d).1 ≤ nI k by rw [n1]; exact nI_ge hk (by omega)), if_neg (show ¬ m_many m 0 ≤ nI k by rw [n2]; exact nI_ge hk (by omega)), q1, ob_some, i10, wri_at (j := 10 + k) rfl (by omega) (by omega), rdi_at (j := 10 + k) rfl (by omega) (by omega), hdk, hbt]
    simp only [lti_eq, or0, nI_1]
    by_cases h4 : aD a k = true
    · rw [if_pos h4, if_pos rfl, if_neg ne10]
      exact ih (k + 1) fu l _ _ _ _ _ _ _ _ _ _ _ _ _ (by omega) (by omega) (by omega)
    · rw [if_neg h4, if_neg (by decide), if_pos rfl]
      obtain ⟨D', gap1, hear1, next1, slow1, hD', hB', t1, t2, t3, t4⟩ := now_lay (N := N) (by omega) hV hA hC gap hear next slow
      obtain ⟨y9, gap2, hear2, next2, t5, t6⟩ := silence_ok (N := N) (by omega) (D := D') (gap := gap1) (next := next1) hn hk6 hb t2 t4
      rw [t1, ob_some, t5, ob_some, c3]
      rcases goesOn_ok (N := N) (by omega) hn hP' t6 e rf rs rb mA mB with ⟨j, mA2, mB2, r1, r2⟩ | ⟨i, j, mA2, mB2, r1, r2⟩
      · obtain ⟨f', e3⟩ := endsIn_end (N := N) (by omega) (mkRW hV) hx0 hP' r1 hw
        have := r1.1
        rw [r2, e3, ob_some, ob_some]
        simp only [if_true, if_neg (m9_ne (show j < 2 ^ 31 by omega))]
        rw [← c3]
        exact ih (k + 1) fu _ _ _ _ _ _ _ _ _ _ _ _ _ _ (by omega) (by omega) (by omega)
      · obtain ⟨f', e3⟩ := endsIn_rnd (N := N) (by omega) (mkRW hV) hx0 hP' r1 hw
        rw [r2, e3, ob_some, ob_some]
        simp only [if_true, if_neg ne10]
        rw [← c3]
        exact ih (k + 1) fu _ _ _ _ _ _ _ _ _ _ _ _ _ _ (by omega) (by omega) (by omega)
theorem sim_enders {N : Nat} (hN : 400 ≤ N) : Sim_enders N Inv := by
  intro d m hI
  obtain ⟨hT, hK, hB, v, hV, hS, hP, hIm, hH⟩ := id hI
  have hn := hV.1.1
  obtain ⟨a, hA, hC, hF⟩ := hS
  unfold fX11_enders fX12_enders
  obtain ⟨l', e', rf', rs', rb', cv', cd', gap', hear', mA', mB', next', slow', w', t1, t2⟩ := en_loop hN hV hA hC hF (fun l1k4_74 v_a0_course_endsInk4_74 v_a0_course_roundFromk4_74 v_a0_course_roundStrokesk4_74 v_a0_course_roundBeatsk4_74 v_a0_course_villagesk4_74 v_a0_course_deafk4_74 m_a0_course_gapk4_74 m_a0_course_hearingk4_74 m_a0_course_metAtk4_74 m_a0_course_metBeatk4_74 m_a0_course_nextk4_74 m_a0_course_slowk4_74 => some (l1k4_74, v_a0_course_endsInk4_74, v_a0_course_roundFromk4_74, v_a0_course_roundStrokesk4_74, v_a0_course_roundBeatsk4_74, v_a0_course_villagesk4_74, v_a0_course_deafk4_74, m_a0_course_gapk4_74, m_a0_course_hearingk4_74, m_a0_course_metAtk4_74, m_a0_course_metBeatk4_74, m_a0_course_nextk4_74, m_a0_course_slowk4_74)) (fun l1k9_74 m_a0_wk9_74 => some (l1k9_74, 0, m_a0_wk9_74)) (vN v) 0 N 0 ((dC d).1) ((dC d).2.1) ((dC d).2.2.1) ((dC d).2.2.2.1) ((dC d).2.2.2.2.2.2.1) ((dC d).2.2.2.2.2.2.2.1) ((dC d).2.2.2.2.2.2.2.2.1) ((dC d).2.2.2.2.2.2.2.2.2.1) ((dC d).2.2.2.2.2.2.2.2.2.2.1) ((dC d).2.2.2.2.2.2.2.2.2.2.2.1) ((dC d).2.2.2.2.2.2.2.2.2.2.2.2.1) ((dC d).2.2.2.2.2.2.2.2.2.2.2.2.2) (m_w m) (by omega) (by omega) (by omega)
  exact ⟨_, _, t1, t2, rfl, hI⟩
