/-! ===== pure: valley ===== -/
def kR30 : K13 := fun a b c d e f g h i j k l m => some (a, b, c, d, e, f, g, h, i, j, k, l, m)
def kR40 : K12 := fun b c d e f g h i j k l m => some ((-1 : Int32), b, c, d, e, f, g, h, i, j, k, l, m)
def kV (N : Nat) (ty un he te : Int32) (ik s : Nat → Int32) : B70T := fun l1 n t p v f told deaf len many slow => Option.bind (fX12_isWell f) fun o146 =>
  if o146 = 0 then (some ((-10 : Int32) - f, (0 : Int32), ty, n, t, p, v, f, told, un, he, te, deaf, ik, len, many, s, slow))
  else (Option.bind (fX12_settles N deaf ik len many s slow) fun o161 =>
  some (l1, (0 : Int32), o161.1, n, t, p, v, f, told, o161.2.1, o161.2.2.1, o161.2.2.2.1, o161.2.2.2.2.1, o161.2.2.2.2.2.1, o161.2.2.2.2.2.2.1, o161.2.2.2.2.2.2.2.1, o161.2.2.2.2.2.2.2.2.1, o161.2.2.2.2.2.2.2.2.2))
abbrev O24 : Type := Option (Int32 × Int32 × Int32 × Int32 × Int32 × Int32 × Int32 × Int32 × (Nat → Int32) × Int32 × Int32 × Int32 × Int32 × Int32 × Int32 × Int32 × Int32 × (Nat → Int32) × (Nat → Int32) × (Nat → Int32) × (Nat → Int32) × (Nat → Int32) × (Nat → Int32) × (Nat → Int32))
theorem kept50 (g : Nat → Int32) : ∃ g', (∀ (K : (Nat → Int32) → O24) (fu : Nat), 2 < fu → fX11_beginAnew_L50 K fu (0 : Int32) g = K g') ∧ g' 0 = 0 ∧ g' 1 = 0 := by
  refine ⟨upd (upd g 0 0) 1 0, fun K fu h => ?_, ?_, upd_eq rfl⟩
  · obtain ⟨fu, rfl⟩ : ∃ g, fu = g + 1 + 1 + 1 := ⟨fu - 3, by omega⟩
    unfold fX11_beginAnew_L50 fX11_beginAnew_50
    rw [if_neg (show ¬ (2 : Int32) ≤ 0 by decide), wri_at (n := 2) (i := (0 : Int32)) (j := 0) rfl (by omega) (by omega)]
    unfold fX11_beginAnew_L50 fX11_beginAnew_50
    rw [if_neg (show ¬ (2 : Int32) ≤ 0 + 1 by decide), wri_at (n := 2) (i := (0 : Int32) + 1) (j := 1) rfl (by omega) (by omega)]
    unfold fX11_beginAnew_L50 fX11_beginAnew_50
    rw [if_pos (show (2 : Int32) ≤ 0 + 1 + 1 by decide)]
    rfl
  · rw [upd_ne (by omega), upd_eq rfl]
theorem okDV {v : AV} (h : OkD v) : OkV v := by
  obtain ⟨o1, o2, o3, o4, o5, o6, o7, o8, o9⟩ := h
  exact ⟨o1, o2, o3, by omega, o5, o6, o7, o8, o9⟩
theorem sim_valley {N : Nat} (hN : 400 ≤ N) : Sim_valley N Inv := by
  intro d m q1 q2 hI
  obtain ⟨⟨t, ht, t1, t2, t3⟩, hK, hB, v, hV, hS, hP, hIm, hH⟩ := id hI
  have hTX : TX t (fun j => ((dT d).2.2.2.2.2 j).toNatClampNeg) ((dT d).2.2.2.2.2) (m_text m) := by
    refine ⟨ht, fun j hj => ?_⟩
    obtain ⟨c, c1, c2, c3⟩ := t3 j hj
    simp only
    rw [c2, c3, nI_clamp (by omega)]
    exact ⟨c1, rfl, rfl⟩
  obtain ⟨sl0, wy0, e1, e2⟩ := empty_ok hN ((dW d).2.2.2.2.2.2.1) ((dW d).2.2.2.2.2.2.2)
  obtain ⟨p, e, k, x, hL⟩ := lex_ex hN hTX (Nat.zero_le t)
  obtain ⟨val', r1, r2⟩ := hL.2.1 (m_value m)
  have hr : RSt N t ((dT d).2.2.2.2.2) (m_text m) 0 (nI e) (tkR k x) (nI p) val' := ⟨p, e, k, x, hL, rfl, rfl, rfl, r2⟩
  obtain ⟨len0, g1, g2, g3⟩ := v45 36 36 (m_lengths m) (by omega) (by omega) (fun y h1 h2 => absurd h2 (by omega))
  have hDF : DF v00 false false 0 (m_deaf m) len0 (upd (upd (upd (m_many m) 3 0) 4 20) 5 0) (m_slow m) := by
    refine ⟨rfl, ?_, ?_, upd_eq rfl, fun a ha => absurd ha (Nat.not_lt_zero _), fun a b ha hb => g2 _ (by omega) (by omega)⟩
    · rw [upd_ne (by omega), upd_ne (by omega), upd_eq rfl]
      rfl
    · rw [upd_ne (by omega), upd_eq rfl]
      rfl
  have hk0 : Keep (m_deaf m) (m_lengths m) (m_many m) (m_slow m) (m_deaf m) len0 (upd (upd (upd (m_many m) 3 0) 4 20) 5 0) (m_slow m) := ⟨fun j hj => by rw [upd_ne (by omega), upd_ne (by omega), upd_ne (by omega)], g3, fun _ _ => ⟨rfl, rfl⟩⟩
  have eC : fX8_readInto N (nI t) ((dT d).2.1) ((dT d).2.2.2.1) ((dT d).2.2.2.2.1) ((dT d).2.2.2.2.2) ((dW d).2.2.2.2.2.2.1) ((dW d).2.2.2.2.2.2.2) = fX8_readInto_L11 N (nI t) ((dT d).2.2.2.2.2) kR30 kR40 kR40 N (nI 0) ((dT d).2.1) (nI 0) ((dT d).2.2.2.1) ((dT d).2.2.2.2.1) 0 0 20 0 0 0 sl0 wy0 := by
    unfold fX8_readInto
    rw [e1, ob_some]
    rfl
  have eF : fX12_valley N (m_typed m) (m_value m) (m_undoMany m) (m_heardMany m) (m_tellMany m) (m_deaf m) (m_isKept m) (m_lengths m) (m_many m) (m_s m) (m_slow m) (m_text m) = fX12_valley_L70 N (nI t) (m_text m) (kV N (nI t) (m_undoMany m) (m_heardMany m) (m_tellMany m) (m_isKept m) (m_s m)) N (nI 0) (nI e) (tkR k x) (nI p) val' (-1) 0 (m_deaf m) len0 (upd (upd (upd (m_many m) 3 0) 4 20) 5 0) (m_slow m) := by
    unfold fX12_valley
    rw [t2, lti_eq, lti_eq, lti_eq]
    refine (g1 _ N (by omega)).trans ?_
    rw [show fX12_advances N (nI t) 0 (m_value m) (m_text m) = some (nI e, tkR k x, nI p, val') from r1, ob_some]
    rfl
  unfold fX11_valley
  rw [eF, t1, eC]
  rcases loopS hN hTX kR30 kR40 kR40 (kV N (nI t) (m_undoMany m) (m_heardMany m) (m_tellMany m) (m_isKept m) (m_s m)) 201 0 0 N N v00 false false ((dT d).2.1) ((dT d).2.2.2.1) ((dT d).2.2.2.2.1) 0 0 20 0 0 0 sl0 wy0 (nI e) (tkR k x) (nI p) val' 0 (m_deaf m) len0 (upd (upd (upd (m_many m) 3 0) 4 20) 5 0) (m_slow m) (by omega) (by omega) (by omega) (by omega) (by omega) e2 hDF okd0 hr with ⟨q, b1, b2, b3, b4, b5, b6, b7, b8, b9, sl', wy', i', n', t', p', v'', told2, deaf2, len2, many2, slow2, c1, c2, c3, c4⟩ | ⟨V, rt2, st2, j, pl', e', tk', num2, cn', cd', cr', cs', crt', cst', sl', wy', n', t', p', v'', told2, deaf2, len2, many2, slow2, c1, c2, c3, c4, c5, c6, c7⟩
  · have hk := Keep_trans hk0 c4
    rw [c2, c3]
    unfold kR40 kV
    rw [isW0 (show q ≤ 200 by omega), ob_some, ob_some, if_pos (show (0 : Int32) = 0 from rfl)]
    rw [if_neg (show ¬ (0 : Int32) ≤ -1 by decide)]
    refine ⟨_, _, rfl, rfl, rfl, Or.inl ⟨rfl, rfl, ⟨t, ht, rfl, rfl, t3⟩, hK, hB, v, ?_, hS, hP, hIm, hH⟩⟩
    obtain ⟨hOk, n1, n2, n3, n4, n5, n6, n7, n8, n9, n10, n11, n12⟩ := hV
    have hn := hOk.1
    exact ⟨hOk, n1, (hk.1 0 (by omega)).trans n2, n3, (hk.1 1 (by omega)).trans n4, n5, (hk.1 2 (by omega)).trans n6, n7, fun a b ha hb => (hk.2.1 _ (by omega)).trans (n8 a b ha hb), fun a ha => ⟨(hk.2.2 a (by omega)).1.trans (n9 a ha).1, (hk.2.2 a (by omega)).2.trans (n9 a ha).2⟩, n10, n11, n12⟩
  · have hOk := okDV c7
    have hn := hOk.1
    have c5' := c5
    obtain ⟨d1, ⟨D, hD, d2, d3⟩, d4, d5, d6, d7, d8, d9⟩ := c5'
    obtain ⟨f', g', u1, u2, u3⟩ := begin_ok hN c5 hOk ((dF d).2.2.2.2.2.2.2.2.2.1) ((dF d).2.2.2.2.2.2.2.2.2.2)
    obtain ⟨ik', w1, w2, w3⟩ := kept50 (dKept d)
    obtain ⟨deaf3, len3, many3, slow3, s3, z1, z2, z3, z4, z5, z6, z7⟩ := settles_ok hN c6 hOk (m_isKept m) (m_s m)
    rw [c2, c3]
    unfold kR30 kV
    rw [isW1, ob_some, ob_some, if_neg ne10, z1, ob_some]
    rw [if_pos (show (0 : Int32) ≤ nI j from nI_pos' (by omega))]
    unfold fX11_beginAnew fX7_copy
    rw [u1, ob_some, lti_eq, lti_eq, lti_eq, lti_eq, lti_eq, ob_some, w1 _ N (by omega), ob_some]
    refine ⟨_, _, rfl, rfl, rfl, Or.inr ⟨rfl, rfl, ⟨0, by omega, rfl, rfl, fun j hj => absurd hj (Nat.not_lt_zero _)⟩, hK, ⟨0, by omega, rfl, rfl, fun j hj => absurd hj (Nat.not_lt_zero _)⟩, V, ?_, ?_, ⟨0, by omega, rfl, rfl, fun j hj => absurd hj (Nat.not_lt_zero _)⟩, ?_, ⟨0, by omega, rfl, rfl, fun j hj => absurd hj (Nat.not_lt_zero _)⟩⟩⟩
    · exact ⟨hOk, d1, z2, d4, z3, d5, z4, d9, z5, z6, ⟨D, hD, d2, d3⟩, rfl, fun a ha => (u2 a (by omega)).trans (congrArg nI (if_pos ha))⟩
    · refine ⟨toldA V (vS V), toldA_ok hOk hOk.2.2.2.1, ?_, z7⟩
      exact ⟨rfl, rfl, rfl, rfl, ⟨D, hD, d2, d3⟩, rfl, fun k hk => absurd hk (Nat.not_lt_zero _), fun y hy => (cpy_in hy).trans (u2 y hy), fun y hy => (cpy_in hy).trans (u3 y hy)⟩
    · refine ⟨fun i hi => ?_, fun hq => ?_, fun hq => ?_⟩
      · rcases (show i = 0 ∨ i = 1 by omega) with rfl | rfl
        · exact ⟨w2.trans (show (0 : Int32) = upd (upd (m_isKept m) 0 0) 1 0 0 by rw [upd_ne (by omega), upd_eq rfl]), Or.inl w2⟩
        · exact ⟨w3.trans (show (0 : Int32) = upd (upd (m_isKept m) 0 0) 1 0 1 by rw [upd_eq rfl]), Or.inl w3⟩
      · exact absurd (w2.symm.trans hq) (by decide)
      · exact absurd (w3.symm.trans hq) (by decide)
