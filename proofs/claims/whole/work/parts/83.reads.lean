/-! ===== pure: the whole text; the state as told, in both ===== -/
abbrev K13 : Type := Int32 → Int32 → Int32 → Int32 → Int32 → Int32 → Int32 → Int32 → Int32 → Int32 → Int32 → (Nat → Int32) → (Nat → Int32) → Option R13
abbrev K12 : Type := Int32 → Int32 → Int32 → Int32 → Int32 → Int32 → Int32 → Int32 → Int32 → Int32 → (Nat → Int32) → (Nat → Int32) → Option R13
theorem tkC1 {k x : Nat} (hk : k ≤ 3) (h0 : k ≠ 0) (hx : k = 3 → x = 118 ∨ x = 101 ∨ x = 114 ∨ x = 115 ∨ x = 59) : ¬ tkC k x = 1 := by
  rcases (show k = 1 ∨ k = 2 ∨ k = 3 by omega) with rfl | rfl | rfl
  · exact show ¬ (0 : Int32) = 1 by decide
  · exact show ¬ (2 : Int32) = 1 by decide
  · rcases hx rfl with rfl | rfl | rfl | rfl | rfl <;> decide
theorem loopS {N : Nat} (hN : 400 ≤ N) {t : Nat} {C : Nat → Nat} {lt tx : Nat → Int32} (h : TX t C lt tx) (K30 : K13) (K40 K48 : K12) (K : B70T) : ∀ (m s i fuC fuF : Nat) (v : AV) (rt st : Bool) (pl0 tk0 num cn cd cr cs crt cst : Int32) (sl wy : Nat → Int32) (n0 tk pc vl told : Int32) (deaf len many slow : Nat → Int32), t - s < m → s ≤ t → i ≤ s → m < fuC → m < fuF → DC v rt st cn cd cr cs crt cst sl wy → DF v rt st told deaf len many slow → OkD v → RSt N t lt tx s n0 tk pc vl →
    (∃ q b1 b2 b3 b4 b5 b6 b7 b8 b9 sl' wy' i' n' t' p' v' told' deaf' len' many' slow', q ≤ t ∧ fX8_readInto_L11 N (nI t) lt K30 K40 K48 fuC (nI i) pl0 (nI s) tk0 num cn cd cr cs crt cst sl wy = K40 (nI q) b1 b2 b3 b4 b5 b6 b7 b8 b9 sl' wy' ∧ fX12_valley_L70 N (nI t) tx K fuF (nI i) n0 tk pc vl (-1) told deaf len many slow = K i' n' t' p' v' (nI q) told' deaf' len' many' slow' ∧ Keep deaf len many slow deaf' len' many' slow') ∨
    (∃ V rt' st' j pl' e' tk' num' cn' cd' cr' cs' crt' cst' sl' wy' n' t' p' v' told' deaf' len' many' slow', j ≤ 200 ∧ fX8_readInto_L11 N (nI t) lt K30 K40 K48 fuC (nI i) pl0 (nI s) tk0 num cn cd cr cs crt cst sl wy = K30 (nI j) pl' e' tk' num' cn' cd' cr' cs' crt' cst' sl' wy' ∧ fX12_valley_L70 N (nI t) tx K fuF (nI i) n0 tk pc vl (-1) told deaf len many slow = K (nI j) n' t' p' v' (-1) told' deaf' len' many' slow' ∧ Keep deaf len many slow deaf' len' many' slow' ∧ DC V rt' st' cn' cd' cr' cs' crt' cst' sl' wy' ∧ DF V rt' st' told' deaf' len' many' slow' ∧ OkD V) := by
  have ht := h.1
  intro m
  induction m with
  | zero =>
    intro s i fuC fuF v rt st pl0 tk0 num cn cd cr cs crt cst sl wy n0 tk pc vl told deaf len many slow h1
    exact absurd h1 (Nat.not_lt_zero _)
  | succ m ih =>
    intro s i fuC fuF v rt st pl0 tk0 num cn cd cr cs crt cst sl wy n0 tk pc vl told deaf len many slow h1 h2 h3 h4 h5 hd hf ho hr
    obtain ⟨fuC, rfl⟩ : ∃ g, fuC = g + 1 := ⟨fuC - 1, by omega⟩
    obtain ⟨fuF, rfl⟩ : ∃ g, fuF = g + 1 := ⟨fuF - 1, by omega⟩
    obtain ⟨p, e, k, x, hL, rfl, rfl, rfl, hvl⟩ := hr
    obtain ⟨num', r1, r2⟩ := hL.1 num
    have eF : fX12_valley_L70 N (nI t) tx K (fuF + 1) (nI i) (nI e) (tkR k x) (nI p) vl (-1) told deaf len many slow = fX12_valley_70 (fX12_valley_L70 N (nI t) tx K fuF) K N (nI i) (nI t) (nI e) (tkR k x) (nI p) vl (-1) told deaf len many slow tx := rfl
    have eC : fX8_readInto_L11 N (nI t) lt K30 K40 K48 (fuC + 1) (nI i) pl0 (nI s) tk0 num cn cd cr cs crt cst sl wy = fX8_readInto_11 (fX8_readInto_L11 N (nI t) lt K30 K40 K48 fuC) K30 K40 K48 N (nI i) (nI t) pl0 (nI s) tk0 num lt cn cd cr cs crt cst sl wy := rfl
    rw [eF, eC]
    unfold fX8_readInto_11
    rw [if_neg (show ¬ (200 : Int32) < nI i from nI_nlt (a := 200) (by omega) (by omega)), r1, ob_some]
    simp only
    by_cases hk : k = 0
    · subst hk
      right
      have e2 : fX12_valley_70 (fX12_valley_L70 N (nI t) tx K fuF) K N (nI i) (nI t) (nI e) (tkR 0 x) (nI p) vl (-1) told deaf len many slow tx = K (nI i) (nI e) (tkR 0 x) (nI p) vl (-1) told deaf len many slow := by
        unfold fX12_valley_70
        rw [isW1, ob_some, if_neg ne10, if_pos (show tkR 0 x = 0 from rfl)]
      exact ⟨v, rt, st, i, _, _, _, _, _, _, _, _, _, _, _, _, _, _, _, _, _, _, _, _, _, by omega, if_pos (show tkC 0 x = 1 from rfl), e2, Keep_refl _ _ _ _, hd, hf, ho⟩
    · rw [if_neg (tkC1 hL.2.2.2.2.2.1 hk hL.2.2.2.2.2.2.2)]
      have hse : s < e := hL.2.2.2.2.1.resolve_left hk
      rcases item_h hN h hL hk hvl hd hf ho num' (fX12_valley_L70 N (nI t) tx K fuF) K (nI i) with ⟨q, o, a1, a2, a3, a4, n1, t1, p1, v1, told', deaf', len', many', slow', a5, a6⟩ | ⟨v', rt', st', e', o, a1, a2, a3, a4, a5, a6, n1, t1, p1, v1, told', deaf', len', many', slow', a7, a8, a9, a10, a11⟩
      · left
        rw [a2, ob_some, a3, if_pos rfl, a5, a4]
        have e2 : fX12_valley_L70 N (nI t) tx K fuF (nI i + 1) n1 t1 p1 v1 (nI q) told' deaf' len' many' slow' = K (nI i + 1) n1 t1 p1 v1 (nI q) told' deaf' len' many' slow' := by
          obtain ⟨fuF, rfl⟩ : ∃ g, fuF = g + 1 := ⟨fuF - 1, by omega⟩
          unfold fX12_valley_L70 fX12_valley_70
          rw [isW0 (by omega), ob_some, if_pos rfl]
        exact ⟨q, _, _, _, _, _, _, _, _, _, _, _, _, _, _, _, _, _, _, _, _, _, a1, rfl, e2, a6⟩
      · rw [a3, ob_some, a4, if_neg ne10, a7, a5, nI_1]
        rcases ih e' (i + 1) fuC fuF v' rt' st' o.2.1 o.2.2.2.1 o.2.2.2.2.1 o.2.2.2.2.2.1 o.2.2.2.2.2.2.1 o.2.2.2.2.2.2.2.1 o.2.2.2.2.2.2.2.2.1 o.2.2.2.2.2.2.2.2.2.1 o.2.2.2.2.2.2.2.2.2.2.1 o.2.2.2.2.2.2.2.2.2.2.2.1 o.2.2.2.2.2.2.2.2.2.2.2.2 n1 t1 p1 v1 told' deaf' len' many' slow' (by omega) a2 (by omega) (by omega) (by omega) a6 a10 a11 a9 with ⟨q, b1, b2, b3, b4, b5, b6, b7, b8, b9, sl', wy', i', n', t', p', v'', told2, deaf2, len2, many2, slow2, c1, c2, c3, c4⟩ | ⟨V, rt2, st2, j, pl', e2, tk', num2, cn', cd', cr', cs', crt', cst', sl', wy', n', t', p', v'', told2, deaf2, len2, many2, slow2, c1, c2, c3, c4, c5, c6, c7⟩
        · exact Or.inl ⟨q, b1, b2, b3, b4, b5, b6, b7, b8, b9, sl', wy', i', n', t', p', v'', told2, deaf2, len2, many2, slow2, c1, c2, c3, Keep_trans a8 c4⟩
        · exact Or.inr ⟨V, rt2, st2, j, pl', e2, tk', num2, cn', cd', cr', cs', crt', cst', sl', wy', n', t', p', v'', told2, deaf2, len2, many2, slow2, c1, c2, c3, Keep_trans a8 c4, c5, c6, c7⟩
/-! the draft, empty -/
abbrev E8 : Type := Option (Int32 × Int32 × Int32 × Int32 × Int32 × Int32 × (Nat → Int32) × (Nat → Int32))
theorem em33 (K : (Nat → Int32) → E8) : ∀ (r i fu : Nat) (g : Nat → Int32), i + r = 6 → r < fu → (∀ y, y < i → g y = nI 0) → ∃ g', fX9_empty_L33 K fu (nI i) g = K g' ∧ ∀ y, y < 6 → g' y = nI 0 := by
  intro r
  induction r with
  | zero =>
    intro i fu g h1 h2 h3
    obtain ⟨fu, rfl⟩ : ∃ g, fu = g + 1 := ⟨fu - 1, by omega⟩
    obtain rfl : i = 6 := by omega
    unfold fX9_empty_L33 fX9_empty_33
    rw [if_pos (show (6 : Int32) ≤ nI 6 by decide)]
    exact ⟨g, rfl, h3⟩
  | succ r ih =>
    intro i fu g h1 h2 h3
    obtain ⟨fu, rfl⟩ : ∃ g, fu = g + 1 := ⟨fu - 1, by omega⟩
    unfold fX9_empty_L33 fX9_empty_33
    rw [if_neg (show ¬ (6 : Int32) ≤ nI i from nI_ge (b := 6) (by omega) (by omega)), wri_at (j := i) rfl (by omega) (by omega), nI_1]
    refine ih (i + 1) fu _ (by omega) (by omega) (fun y hy => ?_)
    by_cases e : y = i
    · rw [upd_eq e]; rfl
    · rw [upd_ne e]; exact h3 y (by omega)
theorem em54 (K : (Nat → Int32) → E8) : ∀ (r i fu : Nat) (g : Nat → Int32), i + r = 36 → r < fu → (∀ y, y < i → g y = nI 0) → ∃ g', fX9_empty_L54 K fu (nI i) g = K g' ∧ ∀ y, y < 36 → g' y = nI 0 := by
  intro r
  induction r with
  | zero =>
    intro i fu g h1 h2 h3
    obtain ⟨fu, rfl⟩ : ∃ g, fu = g + 1 := ⟨fu - 1, by omega⟩
    obtain rfl : i = 36 := by omega
    unfold fX9_empty_L54 fX9_empty_54
    rw [if_pos (show (36 : Int32) ≤ nI 36 by decide)]
    exact ⟨g, rfl, h3⟩
  | succ r ih =>
    intro i fu g h1 h2 h3
    obtain ⟨fu, rfl⟩ : ∃ g, fu = g + 1 := ⟨fu - 1, by omega⟩
    unfold fX9_empty_L54 fX9_empty_54
    rw [if_neg (show ¬ (36 : Int32) ≤ nI i from nI_ge (b := 36) (by omega) (by omega)), wri_at (j := i) rfl (by omega) (by omega), nI_1]
    refine ih (i + 1) fu _ (by omega) (by omega) (fun y hy => ?_)
    by_cases e : y = i
    · rw [upd_eq e]; rfl
    · rw [upd_ne e]; exact h3 y (by omega)
def v00 : AV := (0, 20, 0, fun _ _ => 0, fun _ => 0, fun _ => false)
theorem okd0 : OkD v00 := ⟨by decide, by decide, by decide, Or.inr rfl, fun _ _ => rfl, fun _ => rfl, fun _ _ => Nat.zero_le _, fun _ => Nat.zero_le _, fun _ _ => rfl⟩
theorem empty_ok {N : Nat} (hN : 400 ≤ N) (sl wy : Nat → Int32) : ∃ sl' wy', fX9_empty N sl wy = some (0, 0, 20, 0, 0, 0, sl', wy') ∧ DC v00 false false 0 0 20 0 0 0 sl' wy' := by
  unfold fX9_empty
  obtain ⟨g1, q1, q2⟩ := em33 (fun m_a0_slowk33_52 => fX9_empty_L54
      (fun m_a0_waysk54_76 => some ((0 : Int32), (0 : Int32), (20 : Int32), (0 : Int32), (0 : Int32), (0 : Int32), m_a0_slowk33_52, m_a0_waysk54_76)) N (0 : Int32) wy) 6 0 N sl (by omega) (by omega) (fun y hy => absurd hy (Nat.not_lt_zero _))
  obtain ⟨g2, q3, q4⟩ := em54 (fun m_a0_waysk54_76 => some ((0 : Int32), (0 : Int32), (20 : Int32), (0 : Int32), (0 : Int32), (0 : Int32), g1, m_a0_waysk54_76)) 36 0 N wy (by omega) (by omega) (fun y hy => absurd hy (Nat.not_lt_zero _))
  refine ⟨g1, g2, q1.trans q3, rfl, ⟨0, by omega, rfl, fun a _ => Nat.zero_testBit a⟩, rfl, rfl, rfl, rfl, fun a ha => ?_, fun a b ha hb => q4 _ (by omega)⟩
  rw [q2 a ha]
  show nI 0 = nI (if a < 0 then 0 else 0)
  rw [ite_self]
theorem v45 : ∀ (r i : Nat) (g : Nat → Int32), i + r = 72 → 36 ≤ i → (∀ y, 36 ≤ y → y < i → g y = nI 0) → ∃ g', (∀ (K : (Nat → Int32) → V18) (fu : Nat), r < fu → fX12_valley_L45 K fu (nI i) g = K g') ∧ (∀ y, 36 ≤ y → y < 72 → g' y = nI 0) ∧ ∀ y, y < 36 → g' y = g y := by
  intro r
  induction r with
  | zero =>
    intro i g h1 h0 h3
    obtain rfl : i = 72 := by omega
    refine ⟨g, fun K fu h2 => ?_, h3, fun _ _ => rfl⟩
    obtain ⟨fu, rfl⟩ : ∃ g, fu = g + 1 := ⟨fu - 1, by omega⟩
    unfold fX12_valley_L45 fX12_valley_45
    rw [if_pos (show (72 : Int32) ≤ nI 72 by decide)]
  | succ r ih =>
    intro i g h1 h0 h3
    obtain ⟨g', q1, q2, q3⟩ := ih (i + 1) (upd g i 0) (by omega) (by omega) (fun y hy1 hy2 => by
      by_cases e : y = i
      · rw [upd_eq e]; rfl
      · rw [upd_ne e]; exact h3 y hy1 (by omega))
    refine ⟨g', fun K fu h2 => ?_, q2, fun y hy => (q3 y hy).trans (upd_ne (by omega))⟩
    obtain ⟨fu, rfl⟩ : ∃ g, fu = g + 1 := ⟨fu - 1, by omega⟩
    unfold fX12_valley_L45 fX12_valley_45
    rw [if_neg (show ¬ (72 : Int32) ≤ nI i from nI_ge (b := 72) (by omega) (by omega)), wri_at (j := i) rfl (by omega) (by omega), nI_1]
    exact q1 K fu (by omega)
/-! as told, the class -/
theorem beg35 {L : Nat → Nat} {tsl : Nat → Int32} (hL : ∀ y, y < 6 → tsl y = nI (L y)) (K : (Nat → Int32) → (Nat → Int32) → E8) : ∀ (r i fu : Nat) (f g : Nat → Int32), i + r = 6 → r < fu → (∀ y, y < i → f y = nI (L y) ∧ g y = 0) → ∃ f' g', fX7_begin_L35 tsl K fu (nI i) f g = K f' g' ∧ ∀ y, y < 6 → f' y = nI (L y) ∧ g' y = 0 := by
  intro r
  induction r with
  | zero =>
    intro i fu f g h1 h2 h3
    obtain ⟨fu, rfl⟩ : ∃ g, fu = g + 1 := ⟨fu - 1, by omega⟩
    obtain rfl : i = 6 := by omega
    unfold fX7_begin_L35 fX7_begin_35
    rw [if_pos (show (6 : Int32) ≤ nI 6 by decide)]
    exact ⟨f, g, rfl, h3⟩
  | succ r ih =>
    intro i fu f g h1 h2 h3
    obtain ⟨fu, rfl⟩ : ∃ g, fu = g + 1 := ⟨fu - 1, by omega⟩
    unfold fX7_begin_L35 fX7_begin_35
    rw [if_neg (show ¬ (6 : Int32) ≤ nI i from nI_ge (b := 6) (by omega) (by omega)), rdi_at (j := i) rfl (by omega) (by omega), wri_at (j := i) rfl (by omega) (by omega), wri_at (j := i) rfl (by omega) (by omega), nI_1]
    refine ih (i + 1) fu _ _ (by omega) (by omega) (fun y hy => ?_)
    by_cases e : y = i
    · rw [upd_eq e, upd_eq e, hL i (by omega), e]
      exact ⟨rfl, rfl⟩
    · rw [upd_ne e, upd_ne e]; exact h3 y (by omega)
theorem begin_ok {N : Nat} (hN : 400 ≤ N) {v : AV} {rt st : Bool} {cn cd cr cs crt cst : Int32} {sl wy : Nat → Int32} (hd : DC v rt st cn cd cr cs crt cst sl wy) (ho : OkV v) (fs fk : Nat → Int32) : ∃ f' g', fX7_begin N fs fk cn cd cs sl = some (nI (aK (toldA v (vS v))), 0, nI (vS v), 0, cd, 0, f', g') ∧ (∀ y, y < 6 → f' y = nI (aS (toldA v (vS v)) y)) ∧ ∀ y, y < 6 → g' y = aX (toldA v (vS v)) y := by
  obtain ⟨d1, d2, d4, d5, d6, d7, d8, d9⟩ := hd
  have hn := ho.1
  have hs := ho.2.2.2.1
  unfold fX7_begin fX7_begin_82
  obtain ⟨f', g', q1, q2⟩ := beg35 d8 (fun m_a0_slowk35_66 m_a0_struckk35_66 => if cn ≤ 0 then (some ((0 : Int32), (0 : Int32), (0 : Int32), (0 : Int32), cd, (0 : Int32), m_a0_slowk35_66, m_a0_struckk35_66))
  else (Option.bind (fX7_strike cs (0 : Int32) (0 : Int32) m_a0_struckk35_66) fun o79 =>
  some (o79.1, o79.2.1, o79.2.2.1, (0 : Int32), cd, (0 : Int32), m_a0_slowk35_66, o79.2.2.2))) 6 0 N fs fk (by omega) (by omega) (fun y hy => absurd hy (Nat.not_lt_zero _))
  by_cases h0 : vN v = 0
  · refine ⟨f', g', q1.trans ?_, fun y hy => (q2 y hy).1, fun y hy => (q2 y hy).2.trans ?_⟩
    · have hS0 : vS v = 0 := by omega
      rw [if_pos (show cn ≤ (0 : Int32) by rw [d1, h0]; decide), hS0]
      have : aK (toldA v 0) = 0 := if_pos h0
      rw [this]
      rfl
    · show (0 : Int32) = if vN v ≠ 0 ∧ y = vS v then 1 else 0
      rw [if_neg (fun q => q.1 h0)]
  · have hsn : vS v < 6 := by omega
    refine ⟨f', upd g' (vS v) 1, q1.trans ?_, fun y hy => (q2 y hy).1, fun y hy => ?_⟩
    · unfold fX7_strike
      rw [if_neg (show ¬ cn ≤ (0 : Int32) by rw [d1]; exact nI_nle (by omega) (by omega)), d5, lti_eq, rdi_at (j := vS v) rfl hsn (by omega), wri_at (j := vS v) rfl hsn (by omega), (q2 _ hsn).2, ob_some]
      have : aK (toldA v (vS v)) = 1 := if_neg h0
      rw [this]
      rfl
    · show upd g' (vS v) 1 y = if vN v ≠ 0 ∧ y = vS v then 1 else 0
      by_cases c : y = vS v
      · rw [upd_eq c, if_pos ⟨h0, c⟩]
      · rw [upd_ne c, if_neg (fun q => c q.2)]
        exact (q2 y hy).2
/-! as told, the reference -/
abbrev S10 : Type := Option (Int32 × Int32 × Int32 × Int32 × (Nat → Int32) × (Nat → Int32) × (Nat → Int32) × (Nat → Int32) × (Nat → Int32) × (Nat → Int32))
theorem stl2 (K : (Nat → Int32) → S10) {f : Nat → Int32} : ∀ (r i fu : Nat) (g : Nat → Int32), i + r = 3 → r < fu → (∀ y, y < i → g y = f (3 + y)) → (∀ y, 3 ≤ y → g y = f y) → ∃ g', fX12_settles_L2 K fu (nI i) g = K g' ∧ ∀ y, y < 3 → g' y = f (3 + y) := by
  intro r
  induction r with
  | zero =>
    intro i fu g h1 h2 h3 h4
    obtain ⟨fu, rfl⟩ : ∃ g, fu = g + 1 := ⟨fu - 1, by omega⟩
    obtain rfl : i = 3 := by omega
    unfold fX12_settles_L2 fX12_settles_2
    rw [if_pos (show (3 : Int32) ≤ nI 3 by decide)]
    exact ⟨g, rfl, h3⟩
  | succ r ih =>
    intro i fu g h1 h2 h3 h4
    obtain ⟨fu, rfl⟩ : ∃ g, fu = g + 1 := ⟨fu - 1, by omega⟩
    have i3 : (3 : Int32) + nI i = nI (3 + i) := by simp only [litI, nI_add]
    unfold fX12_settles_L2 fX12_settles_2
    rw [if_neg (show ¬ (3 : Int32) ≤ nI i from nI_ge (b := 3) (by omega) (by omega)), i3, rdi_at (j := 3 + i) rfl (by omega) (by omega), wri_at (j := i) rfl (by omega) (by omega), nI_1]
    refine ih (i + 1) fu _ (by omega) (by omega) (fun y hy => ?_) (fun y hy => (upd_ne (by omega)).trans (h4 y hy))
    by_cases e : y = i
    · rw [upd_eq e, h4 _ (by omega), e]
    · rw [upd_ne e]; exact h3 y (by omega)
theorem stl29 (K : (Nat → Int32) → S10) {f : Nat → Int32} : ∀ (r i fu : Nat) (g : Nat → Int32), i + r = 36 → r < fu → (∀ y, y < i → g y = f (36 + y)) → (∀ y, 36 ≤ y → g y = f y) → ∃ g', fX12_settles_L29 K fu (nI i) g = K g' ∧ ∀ y, y < 36 → g' y = f (36 + y) := by
  intro r
  induction r with
  | zero =>
    intro i fu g h1 h2 h3 h4
    obtain ⟨fu, rfl⟩ : ∃ g, fu = g + 1 := ⟨fu - 1, by omega⟩
    obtain rfl : i = 36 := by omega
    unfold fX12_settles_L29 fX12_settles_29
    rw [if_pos (show (36 : Int32) ≤ nI 36 by decide)]
    exact ⟨g, rfl, h3⟩
  | succ r ih =>
    intro i fu g h1 h2 h3 h4
    obtain ⟨fu, rfl⟩ : ∃ g, fu = g + 1 := ⟨fu - 1, by omega⟩
    have i3 : (36 : Int32) + nI i = nI (36 + i) := by simp only [litI, nI_add]
    unfold fX12_settles_L29 fX12_settles_29
    rw [if_neg (show ¬ (36 : Int32) ≤ nI i from nI_ge (b := 36) (by omega) (by omega)), i3, rdi_at (j := 36 + i) rfl (by omega) (by omega), wri_at (j := i) rfl (by omega) (by omega), nI_1]
    refine ih (i + 1) fu _ (by omega) (by omega) (fun y hy => ?_) (fun y hy => (upd_ne (by omega)).trans (h4 y hy))
    by_cases e : y = i
    · rw [upd_eq e, h4 _ (by omega), e]
    · rw [upd_ne e]; exact h3 y (by omega)
theorem stl58 (K : (Nat → Int32) → (Nat → Int32) → S10) {d s : Nat → Int32} : ∀ (r i fu : Nat) (f g : Nat → Int32), i + r = 6 → r < fu → (∀ y, y < i → f y = d (6 + y) ∧ g y = s (6 + y)) → (∀ y, 6 ≤ y → f y = d y ∧ g y = s y) → ∃ f' g', fX12_settles_L58 K fu (nI i) f g = K f' g' ∧ ∀ y, y < 6 → f' y = d (6 + y) ∧ g' y = s (6 + y) := by
  intro r
  induction r with
  | zero =>
    intro i fu f g h1 h2 h3 h4
    obtain ⟨fu, rfl⟩ : ∃ g, fu = g + 1 := ⟨fu - 1, by omega⟩
    obtain rfl : i = 6 := by omega
    unfold fX12_settles_L58 fX12_settles_58
    rw [if_pos (show (6 : Int32) ≤ nI 6 by decide)]
    exact ⟨f, g, rfl, h3⟩
  | succ r ih =>
    intro i fu f g h1 h2 h3 h4
    obtain ⟨fu, rfl⟩ : ∃ g, fu = g + 1 := ⟨fu - 1, by omega⟩
    have i3 : (6 : Int32) + nI i = nI (6 + i) := by simp only [litI, nI_add]
    unfold fX12_settles_L58 fX12_settles_58
    rw [if_neg (show ¬ (6 : Int32) ≤ nI i from nI_ge (b := 6) (by omega) (by omega)), i3, rdi_at (j := 6 + i) rfl (by omega) (by omega), wri_at (j := i) rfl (by omega) (by omega), rdi_at (j := 6 + i) rfl (by omega) (by omega), wri_at (j := i) rfl (by omega) (by omega), nI_1]
    refine ih (i + 1) fu _ _ (by omega) (by omega) (fun y hy => ?_) (fun y hy => ⟨(upd_ne (by omega)).trans (h4 y hy).1, (upd_ne (by omega)).trans (h4 y hy).2⟩)
    by_cases e : y = i
    · rw [upd_eq e, upd_eq e, (h4 _ (show 6 ≤ 6 + i by omega)).1, (h4 _ (show 6 ≤ 6 + i by omega)).2, e]
      exact ⟨rfl, rfl⟩
    · rw [upd_ne e, upd_ne e]; exact h3 y (by omega)
theorem settles_ok {N : Nat} (hN : 400 ≤ N) {v : AV} {rt st : Bool} {told : Int32} {deaf len many slow : Nat → Int32} (hf : DF v rt st told deaf len many slow) (ho : OkV v) (ik s : Nat → Int32) : ∃ deaf' len' many' slow' s', fX12_settles N deaf ik len many s slow = some (0, 0, 0, 0, deaf', upd (upd ik 0 0) 1 0, len', many', s', slow') ∧ many' 0 = nI (vN v) ∧ many' 1 = nI (vR v) ∧ many' 2 = nI (vS v) ∧ (∀ a b, a < 6 → b < 6 → len' (6 * a + b) = nI (vW v a b)) ∧ (∀ a, a < vN v → slow' a = nI (vL v a) ∧ deaf' a = if vD v a then 1 else 0) ∧ RF s' (toldA v (vS v)) := by
  obtain ⟨f1, f2, f3, f4, f5, f6⟩ := hf
  have hn := ho.1
  unfold fX12_settles
  obtain ⟨m1, q1, q2⟩ := stl2 (fun m_a0_manyk2_27 => fX12_settles_L29
      (fun m_a0_lengthsk29_56 => fX12_settles_L58
      (fun m_a0_deafk58_100 m_a0_slowk58_100 => Option.bind (fX12_asTold N (m_a0_manyk2_27 2) m_a0_deafk58_100 m_a0_manyk2_27 m_a0_slowk58_100 s) fun o111 =>
  lti (upd ik 0 (vp_nar .boolean (0 : Int32))) fun g140 =>
  lti (upd g140 1 (vp_nar .boolean (0 : Int32))) fun g147 =>
  some ((0 : Int32), (0 : Int32), (0 : Int32), (0 : Int32), m_a0_deafk58_100, g147, m_a0_lengthsk29_56, m_a0_manyk2_27, o111, m_a0_slowk58_100)) N (0 : Int32) deaf slow) N (0 : Int32) len) (f := many) 3 0 N many (by omega) (by omega) (fun y hy => absurd hy (Nat.not_lt_zero _)) (fun _ _ => rfl)
  obtain ⟨l1, q3, q4⟩ := stl29 (fun m_a0_lengthsk29_56 => fX12_settles_L58
      (fun m_a0_deafk58_100 m_a0_slowk58_100 => Option.bind (fX12_asTold N (m1 2) m_a0_deafk58_100 m1 m_a0_slowk58_100 s) fun o111 =>
  lti (upd ik 0 (vp_nar .boolean (0 : Int32))) fun g140 =>
  lti (upd g140 1 (vp_nar .boolean (0 : Int32))) fun g147 =>
  some ((0 : Int32), (0 : Int32), (0 : Int32), (0 : Int32), m_a0_deafk58_100, g147, m_a0_lengthsk29_56, m1, o111, m_a0_slowk58_100)) N (0 : Int32) deaf slow) (f := len) 36 0 N len (by omega) (by omega) (fun y hy => absurd hy (Nat.not_lt_zero _)) (fun _ _ => rfl)
  obtain ⟨d1, s1, q5, q6⟩ := stl58 (fun m_a0_deafk58_100 m_a0_slowk58_100 => Option.bind (fX12_asTold N (m1 2) m_a0_deafk58_100 m1 m_a0_slowk58_100 s) fun o111 =>
  lti (upd ik 0 (vp_nar .boolean (0 : Int32))) fun g140 =>
  lti (upd g140 1 (vp_nar .boolean (0 : Int32))) fun g147 =>
  some ((0 : Int32), (0 : Int32), (0 : Int32), (0 : Int32), m_a0_deafk58_100, g147, l1, m1, o111, m_a0_slowk58_100)) (d := deaf) (s := slow) 6 0 N deaf slow (by omega) (by omega) (fun y hy => absurd hy (Nat.not_lt_zero _)) (fun _ _ => ⟨rfl, rfl⟩)
  have k0 : m1 0 = nI (vN v) := (q2 0 (by omega)).trans f2
  have k1 : m1 1 = nI (vR v) := (q2 1 (by omega)).trans f3
  have k2 : m1 2 = nI (vS v) := (q2 2 (by omega)).trans f4
  have k3 : ∀ a, a < vN v → s1 a = nI (vL v a) ∧ d1 a = if vD v a then 1 else 0 := fun a ha => ⟨(q6 a (by omega)).2.trans (f5 a ha).1, (q6 a (by omega)).1.trans (f5 a ha).2⟩
  obtain ⟨w, e1, e2⟩ := asTold_ok hN (⟨ho, k0, k3⟩ : RT v d1 m1 s1) ho.2.2.2.1 s
  refine ⟨d1, l1, m1, s1, w, ((q1.trans q3).trans q5).trans ?_, k0, k1, k2, fun a b ha hb => ?_, k3, e2⟩
  · rw [k2, e1, ob_some]
    rfl
  · rw [q4 _ (by omega), ← Nat.add_assoc]
    exact f6 a b ha hb
