/-! ===== pure: the tokens of a text, read by both ===== -/
def TX (t : Nat) (C : Nat → Nat) (lt tx : Nat → Int32) : Prop := t ≤ 200 ∧ ∀ j, j < t → C j < 256 ∧ lt j = nI (C j) ∧ tx j = nI (C j)
theorem lat_in {t s : Nat} {C : Nat → Nat} {lt tx : Nat → Int32} (h : TX t C lt tx) (hs : s < t) : fX12_letterAt (nI s) (nI t) tx = some (nI (C s)) := by
  have h1 := h.1
  unfold fX12_letterAt fX12_letterAt_18
  rw [if_neg (nI_ge hs (by omega)), rdi_at (j := s) rfl (by omega) (by omega), (h.2 s hs).2.2]
theorem lat_out {t : Nat} {tx : Nat → Int32} (ht : t ≤ 200) : fX12_letterAt (nI t) (nI t) tx = some (-1) := by
  unfold fX12_letterAt fX12_letterAt_18
  rw [if_pos (nI_le (Nat.le_refl _) (by omega))]
abbrev T4 : Type := Option (Int32 × Int32 × Int32 × Int32)
abbrev T3 : Type := Option (Int32 × Int32 × Int32)
theorem skp {t : Nat} {C : Nat → Nat} {lt tx : Nat → Int32} (h : TX t C lt tx) : ∀ (r s : Nat), t - s = r → s ≤ t → ∃ p, s ≤ p ∧ p ≤ t ∧ (∀ (K : Int32 → T4) (fu : Nat), r < fu → fX8_readToken_L0 (nI t) lt K fu (nI s) = K (nI p)) ∧ (∀ (K : Int32 → T4) (fu : Nat), r < fu → fX12_advances_L0 (nI t) tx K fu (nI s) = K (nI p)) := by
  have ht := h.1
  intro r
  induction r with
  | zero =>
    intro s h1 h2
    have hst : s = t := by omega
    subst hst
    refine ⟨s, Nat.le_refl _, Nat.le_refl _, fun K fu hf => ?_, fun K fu hf => ?_⟩
    · obtain ⟨fu, rfl⟩ : ∃ g, fu = g + 1 := ⟨fu - 1, by omega⟩
      unfold fX8_readToken_L0 fX8_readToken_0
      rw [if_pos (nI_le (Nat.le_refl _) (by omega))]
    · obtain ⟨fu, rfl⟩ : ∃ g, fu = g + 1 := ⟨fu - 1, by omega⟩
      unfold fX12_advances_L0 fX12_advances_0
      rw [lat_out ht, ob_some, if_neg (show ¬ (-1 : Int32) = 32 by decide)]
  | succ r ih =>
    intro s h1 h2
    have hst : s < t := by omega
    obtain ⟨c1, c2, c3⟩ := h.2 s hst
    by_cases hb : C s = 32
    · obtain ⟨p, q1, q2, q3, q4⟩ := ih (s + 1) (by omega) (by omega)
      refine ⟨p, by omega, q2, fun K fu hf => ?_, fun K fu hf => ?_⟩
      · obtain ⟨fu, rfl⟩ : ∃ g, fu = g + 1 := ⟨fu - 1, by omega⟩
        unfold fX8_readToken_L0 fX8_readToken_0
        rw [if_neg (nI_ge hst (by omega)), rdi_at (j := s) rfl (by omega) (by omega), c2, if_pos (show nI (C s) = (32 : Int32) by rw [hb]; rfl), lti_eq, nI_1]
        exact q3 K fu (by omega)
      · obtain ⟨fu, rfl⟩ : ∃ g, fu = g + 1 := ⟨fu - 1, by omega⟩
        unfold fX12_advances_L0 fX12_advances_0
        rw [lat_in h hst, ob_some, if_pos (show nI (C s) = (32 : Int32) by rw [hb]; rfl), lti_eq, nI_1]
        exact q4 K fu (by omega)
    · have hb' : ¬ nI (C s) = (32 : Int32) := nI_ne (b := 32) (by omega) (by omega) hb
      refine ⟨s, Nat.le_refl _, h2, fun K fu hf => ?_, fun K fu hf => ?_⟩
      · obtain ⟨fu, rfl⟩ : ∃ g, fu = g + 1 := ⟨fu - 1, by omega⟩
        unfold fX8_readToken_L0 fX8_readToken_0
        rw [if_neg (nI_ge hst (by omega)), rdi_at (j := s) rfl (by omega) (by omega), c2, if_neg hb']
      · obtain ⟨fu, rfl⟩ : ∃ g, fu = g + 1 := ⟨fu - 1, by omega⟩
        unfold fX12_advances_L0 fX12_advances_0
        rw [lat_in h hst, ob_some, if_neg hb']
theorem digs (x : Int32) : (fX8_isDigit x = some 1 ∧ fX12_in x 48 57 = some 1 ∧ ¬ x < 48 ∧ ¬ 57 < x) ∨ (fX8_isDigit x = some 0 ∧ fX12_in x 48 57 = some 0 ∧ (x < 48 ∨ 57 < x)) := by
  unfold fX8_isDigit fX8_isDigit_16 fX8_isDigit_17
  rcases rng x 48 57 with ⟨e, -, h1, h2⟩ | ⟨e, -, h⟩
  · exact Or.inl ⟨by rw [if_neg h1, if_neg h2, bz1], e, h1, h2⟩
  · refine Or.inr ⟨?_, e, h⟩
    by_cases h1 : x < 48
    · rw [if_pos h1, bz0]
    · rw [if_neg h1, if_pos (h.resolve_left h1), bz0]
theorem nI_sub48 {a c : Nat} (h : 48 ≤ c) : nI a + nI c - (48 : Int32) = nI (a + (c - 48)) := by
  rw [nI_add, show (48 : Int32) = nI 48 from rfl, pk_sub (by omega)]
  congr 1
  omega
/-- the number as the class and as the reference hold it -/
def NV (a b : Nat) : Prop := (a ≤ 20 ∧ b = a) ∨ (20 < a ∧ a ≤ 1000 ∧ 20 < b ∧ b ≤ 1000)
theorem dgt {t : Nat} {C : Nat → Nat} {lt tx : Nat → Int32} (h : TX t C lt tx) : ∀ (r s a b : Nat), t - s = r → s ≤ t → NV a b → ∃ e a' b', s ≤ e ∧ e ≤ t ∧ NV a' b' ∧ (∀ (K : Int32 → Int32 → T3) (fu : Nat), r < fu → fX8_readDigits_L5 (nI t) lt K fu (nI s) (nI a) = K (nI e) (nI a')) ∧ (∀ (K : Int32 → Int32 → T4) (fu : Nat), r < fu → fX12_advances_L71 (nI t) tx K fu (nI s) (nI b) = K (nI e) (nI b')) ∧ (s < t → fX8_isDigit (nI (C s)) = some 1 → s < e) := by
  have ht := h.1
  intro r
  induction r with
  | zero =>
    intro s a b h1 h2 hab
    have hst : s = t := by omega
    subst hst
    refine ⟨s, a, b, Nat.le_refl _, Nat.le_refl _, hab, fun K fu hf => ?_, fun K fu hf => ?_, fun q => absurd q (Nat.lt_irrefl _)⟩
    · obtain ⟨fu, rfl⟩ : ∃ g, fu = g + 1 := ⟨fu - 1, by omega⟩
      unfold fX8_readDigits_L5 fX8_readDigits_5
      rw [if_pos (nI_le (Nat.le_refl _) (by omega))]
    · obtain ⟨fu, rfl⟩ : ∃ g, fu = g + 1 := ⟨fu - 1, by omega⟩
      unfold fX12_advances_L71 fX12_advances_71
      rcases digs (-1) with ⟨-, -, q, -⟩ | ⟨-, e, -⟩
      · exact absurd (show (-1 : Int32) < 48 by decide) q
      · rw [lat_out ht, ob_some, e, ob_some, if_pos rfl]
  | succ r ih =>
    intro s a b h1 h2 hab
    have hst : s < t := by omega
    obtain ⟨c1, c2, c3⟩ := h.2 s hst
    rcases digs (nI (C s)) with ⟨e1, e2, g1, g2⟩ | ⟨e1, e2, -⟩
    · have k1 : 48 ≤ C s := by
        rcases Nat.lt_or_ge (C s) 48 with q | q
        · exact absurd (show nI (C s) < (48 : Int32) from nI_lt (b := 48) q (by omega)) g1
        · exact q
      have k2 : C s ≤ 57 := by
        rcases Nat.lt_or_ge 57 (C s) with q | q
        · exact absurd (show (57 : Int32) < nI (C s) from nI_lt (a := 57) q (by omega)) g2
        · exact q
      have ha : a ≤ 1000 := by rcases hab with q | q <;> omega
      have hb : b ≤ 1000 := by rcases hab with q | q <;> omega
      have hnew : NV (if 1000 < a * 10 + (C s - 48) then 1000 else a * 10 + (C s - 48)) (if b ≤ 20 then 10 * b + (C s - 48) else b) := by
        rcases hab with ⟨q1, q2⟩ | ⟨q1, q2, q3, q4⟩
        · subst q2
          rw [if_neg (by omega), if_pos q1, Nat.mul_comm 10 b]
          by_cases q : b * 10 + (C s - 48) ≤ 20
          · exact Or.inl ⟨q, rfl⟩
          · exact Or.inr ⟨by omega, by omega, by omega, by omega⟩
        · rw [if_neg (show ¬ b ≤ 20 by omega)]
          refine Or.inr ⟨?_, ?_, q3, q4⟩
          · split <;> omega
          · split <;> omega
      obtain ⟨e, a', b', q1, q2, q3, q4, q5, -⟩ := ih (s + 1) _ _ (by omega) (by omega) hnew
      refine ⟨e, a', b', by omega, q2, q3, fun K fu hf => ?_, fun K fu hf => ?_, fun _ _ => by omega⟩
      · obtain ⟨fu, rfl⟩ : ∃ g, fu = g + 1 := ⟨fu - 1, by omega⟩
        unfold fX8_readDigits_L5 fX8_readDigits_5
        rw [if_neg (nI_ge hst (by omega)), rdi_at (j := s) rfl (by omega) (by omega), c2, e1, ob_some, if_neg ne10, rdi_at (j := s) rfl (by omega) (by omega), c2, lti_eq, lti_eq, nI_1, show nI a * (10 : Int32) = nI (a * 10) from pk_mul _ _, nI_sub48 k1, ← q4 K fu (by omega)]
        congr 1
        by_cases q : 1000 < a * 10 + (C s - 48)
        · rw [if_pos (show (1000 : Int32) < nI (a * 10 + (C s - 48)) from nI_lt (a := 1000) q (by omega)), if_pos q]
          rfl
        · rw [if_neg (show ¬ (1000 : Int32) < nI (a * 10 + (C s - 48)) from nI_nlt (a := 1000) (by omega) (by omega)), if_neg q]
      · obtain ⟨fu, rfl⟩ : ∃ g, fu = g + 1 := ⟨fu - 1, by omega⟩
        unfold fX12_advances_L71 fX12_advances_71 fX12_advances_125
        rw [lat_in h hst, ob_some, e2, ob_some, if_neg ne10, ob_some, lti_eq, lti_eq, nI_1, show (10 : Int32) * nI b = nI (10 * b) from pk_mul _ _, nI_sub48 k1, ← q5 K fu (by omega)]
        by_cases q : b ≤ 20
        · rw [if_pos (show nI b ≤ (20 : Int32) from nI_le (b := 20) q (by omega)), if_pos q]
        · rw [if_neg (show ¬ nI b ≤ (20 : Int32) from nI_ge (a := 20) (by omega) (by omega)), if_neg q]
    · refine ⟨s, a, b, Nat.le_refl _, h2, hab, fun K fu hf => ?_, fun K fu hf => ?_, fun _ q => ?_⟩
      · obtain ⟨fu, rfl⟩ : ∃ g, fu = g + 1 := ⟨fu - 1, by omega⟩
        unfold fX8_readDigits_L5 fX8_readDigits_5
        rw [if_neg (nI_ge hst (by omega)), rdi_at (j := s) rfl (by omega) (by omega), c2, e1, ob_some, if_pos rfl]
      · obtain ⟨fu, rfl⟩ : ∃ g, fu = g + 1 := ⟨fu - 1, by omega⟩
        unfold fX12_advances_L71 fX12_advances_71
        rw [lat_in h hst, ob_some, e2, ob_some, if_pos rfl]
      · rw [e1] at q
        exact absurd (Option.some.inj q) (by decide)
/-- a token: 0 the end, 1 wrong, 2 a number x, 3 a sign x -/
def tkC (k x : Nat) : Int32 := if k = 0 then 1 else if k = 1 then 0 else if k = 2 then 2 else nI x
def tkR (k x : Nat) : Int32 := if k = 0 then 0 else if k = 1 then 4 else if k = 2 then 2 else if x = 59 then 3 else 1
def Lex (N t : Nat) (lt tx : Nat → Int32) (s p e k x : Nat) : Prop := (∀ num, ∃ num', fX8_readToken N (nI t) (nI s) num lt = some (nI p, nI e, tkC k x, num') ∧ (k = 2 → num' = nI x)) ∧ (∀ val, ∃ val', fX12_advances N (nI t) (nI s) val tx = some (nI e, tkR k x, nI p, val') ∧ (2 ≤ k → val' = nI x)) ∧ p ≤ t ∧ e ≤ t ∧ (k = 0 ∨ s < e) ∧ k ≤ 3 ∧ (k = 2 → x ≤ 20) ∧ (k = 3 → x = 118 ∨ x = 101 ∨ x = 114 ∨ x = 115 ∨ x = 59)
theorem lex_ex {N : Nat} (hN : 400 ≤ N) {t : Nat} {C : Nat → Nat} {lt tx : Nat → Int32} (h : TX t C lt tx) {s : Nat} (hs : s ≤ t) : ∃ p e k x, Lex N t lt tx s p e k x := by
  have ht := h.1
  obtain ⟨p, q1, q2, q3, q4⟩ := skp h (t - s) s rfl hs
  by_cases hp : p = t
  · subst hp
    refine ⟨p, p, 0, 0, fun num => ⟨num, ?_, fun q => by cases q⟩, fun val => ⟨val, ?_, fun q => absurd q (by decide)⟩, Nat.le_refl _, Nat.le_refl _, Or.inl rfl, by omega, (fun q => by cases q), (fun q => by cases q)⟩
    · unfold fX8_readToken
      rw [q3 _ N (by omega), if_neg (nI_nlt (Nat.le_refl _) (by omega))]
      rfl
    · unfold fX12_advances fX12_advances_239
      rw [q4 _ N (by omega), lat_out ht, ob_some, if_neg (show ¬ (0 : Int32) ≤ -1 by decide)]
      rfl
  · have hpt : p < t := by omega
    obtain ⟨c1, c2, c3⟩ := h.2 p hpt
    have hpos : (0 : Int32) ≤ nI (C p) := nI_pos' (by omega)
    rcases digs (nI (C p)) with ⟨e1, e2, g1, g2⟩ | ⟨e1, e2, -⟩
    · obtain ⟨e, a, b, r1, r2, r3, r4, r5, r6⟩ := dgt h (t - p) p 0 0 rfl q2 (Or.inl ⟨by omega, rfl⟩)
      have r7 := r6 hpt e1
      have cl : ∀ num, fX8_readToken N (nI t) (nI s) num lt = Option.bind (if nI (C p) = (48 : Int32) then (if (nI e - nI p) ≤ (1 : Int32) then (fX8_readDigits_105 (nI e) (nI a)) else (fX8_readDigits_106 (1 : Int32) (nI e) (nI a))) else (fX8_readDigits_105 (nI e) (nI a))) fun o81 => some (nI p, o81.1, o81.2.1, o81.2.2) := by
        intro num
        unfold fX8_readToken fX8_readDigits
        rw [q3 _ N (by omega), if_pos (nI_lt hpt (by omega)), rdi_at (j := p) rfl (by omega) (by omega), c2, e1, ob_some, if_neg ne10, show (0 : Int32) = nI 0 from rfl, r4 _ N (by omega), rdi_at (j := p) rfl (by omega) (by omega), c2]
      have rf : ∀ val, fX12_advances N (nI t) (nI s) val tx = if (20 : Int32) < nI b then (fX12_advances_170 (nI e) (nI p) (nI b)) else (if nI (C p) = (48 : Int32) then (if (nI e - nI p) ≤ (1 : Int32) then (fX12_advances_174 (nI e) (nI p) (nI b)) else (fX12_advances_170 (nI e) (nI p) (nI b))) else (fX12_advances_174 (nI e) (nI p) (nI b))) := by
        intro val
        unfold fX12_advances
        rw [q4 _ N (by omega), lat_in h hpt, ob_some, if_pos hpos, e2, ob_some, if_neg ne10, show fX12_advances_L71 (nI t) tx = fX12_advances_L71 (nI t) tx from rfl]
        exact r5 _ N (by omega)
      unfold fX8_readDigits_105 fX8_readDigits_106 fX8_readDigits_121 fX8_readDigits_126 at cl
      unfold fX12_advances_170 fX12_advances_174 fX12_advances_175 fX12_advances_239 at rf
      have wrong : (∀ num, fX8_readToken N (nI t) (nI s) num lt = some (nI p, nI e, 0, nI a)) → (∀ val, fX12_advances N (nI t) (nI s) val tx = some (nI e, 4, nI p, nI b)) → ∃ p e k x, Lex N t lt tx s p e k x := fun w1 w2 => ⟨p, e, 1, 0, fun num => ⟨_, w1 num, fun q => by cases q⟩, fun val => ⟨_, w2 val, fun q => absurd q (by decide)⟩, q2, r2, Or.inr (by omega), by omega, (fun q => by cases q), (fun q => by cases q)⟩
      by_cases hw : C p = 48 ∧ ¬ (nI e - nI p) ≤ (1 : Int32)
      · have hz : nI (C p) = (48 : Int32) := by rw [hw.1]; rfl
        refine wrong (fun num => ?_) (fun val => ?_)
        · rw [cl, if_pos hz, if_neg hw.2, if_neg ne10, ob_some]
        · rw [rf, if_pos hz, if_neg hw.2, ite_self]
      · have hz : (if nI (C p) = (48 : Int32) then (if (nI e - nI p) ≤ (1 : Int32) then true else false) else true) = true := by
          by_cases z1 : nI (C p) = (48 : Int32)
          · rw [if_pos z1]
            by_cases z2 : (nI e - nI p) ≤ (1 : Int32)
            · rw [if_pos z2]
            · exact absurd ⟨(nI_eq (b := 48) (by omega) (by omega)).mp z1, z2⟩ hw
          · rw [if_neg z1]
        have cl2 : ∀ num, fX8_readToken N (nI t) (nI s) num lt = Option.bind (if nI a ≤ (20 : Int32) then some (nI e, (2 : Int32), nI a) else some (nI e, (0 : Int32), nI a)) fun o81 => some (nI p, o81.1, o81.2.1, o81.2.2) := by
          intro num
          rw [cl]
          by_cases z1 : nI (C p) = (48 : Int32)
          · by_cases z2 : (nI e - nI p) ≤ (1 : Int32)
            · rw [if_pos z1, if_pos z2, if_pos rfl]
            · exact absurd ⟨(nI_eq (b := 48) (by omega) (by omega)).mp z1, z2⟩ hw
          · rw [if_neg z1, if_pos rfl]
        have rf2 : ∀ val, fX12_advances N (nI t) (nI s) val tx = if (20 : Int32) < nI b then some (nI e, 4, nI p, nI b) else some (nI e, 2, nI p, nI b) := by
          intro val
          rw [rf]
          by_cases z1 : nI (C p) = (48 : Int32)
          · by_cases z2 : (nI e - nI p) ≤ (1 : Int32)
            · rw [if_pos z1, if_pos z2]
            · exact absurd ⟨(nI_eq (b := 48) (by omega) (by omega)).mp z1, z2⟩ hw
          · rw [if_neg z1]
        rcases r3 with ⟨z1, z2⟩ | ⟨z1, z2, z3, z4⟩
        · subst z2
          refine ⟨p, e, 2, b, fun num => ⟨nI b, ?_, fun _ => rfl⟩, fun val => ⟨nI b, ?_, fun _ => rfl⟩, q2, r2, Or.inr (by omega), by omega, fun _ => z1, fun q => by cases q⟩
          · rw [cl2, if_pos (show nI b ≤ (20 : Int32) from nI_le (b := 20) z1 (by omega)), ob_some]
            rfl
          · rw [rf2, if_neg (show ¬ (20 : Int32) < nI b from nI_nlt (a := 20) (by omega) (by omega))]
            rfl
        · refine wrong (fun num => ?_) (fun val => ?_)
          · rw [cl2, if_neg (show ¬ nI a ≤ (20 : Int32) from nI_ge (a := 20) (by omega) (by omega)), ob_some]
          · rw [rf2, if_pos (show (20 : Int32) < nI b from nI_lt (a := 20) (by omega) (by omega))]
    · have cl : ∀ num, fX8_readToken N (nI t) (nI s) num lt = Option.bind (fX8_isSign (nI (C p))) fun o97 => if o97 = 0 then (some (nI p, nI (p + 1), (0 : Int32), num)) else (some (nI p, nI (p + 1), nI (C p), num)) := by
        intro num
        unfold fX8_readToken fX8_readToken_108
        rw [q3 _ N (by omega), if_pos (nI_lt hpt (by omega)), rdi_at (j := p) rfl (by omega) (by omega), c2, e1, ob_some, if_pos rfl, lti_eq, nI_1]
      have rf : ∀ val, fX12_advances N (nI t) (nI s) val tx = if nI (C p) = (59 : Int32) then some (nI (p + 1), 3, nI p, nI (C p)) else (if nI (C p) = (118 : Int32) then some (nI (p + 1), 1, nI p, nI (C p)) else (if nI (C p) = (101 : Int32) then some (nI (p + 1), 1, nI p, nI (C p)) else (if nI (C p) = (114 : Int32) then some (nI (p + 1), 1, nI p, nI (C p)) else (if nI (C p) = (115 : Int32) then some (nI (p + 1), 1, nI p, nI (C p)) else some (nI (p + 1), 4, nI p, nI (C p)))))) := by
        intro val
        unfold fX12_advances fX12_advances_236 fX12_advances_231 fX12_advances_236 fX12_advances_239
        rw [q4 _ N (by omega), lat_in h hpt, ob_some, if_pos hpos, e2, ob_some, if_pos rfl, lti_eq, nI_1]
      unfold fX8_isSign fX8_isSign_30 fX8_isSign_35 at cl
      have sign : (C p = 118 ∨ C p = 101 ∨ C p = 114 ∨ C p = 115 ∨ C p = 59) → ∃ p e k x, Lex N t lt tx s p e k x := by
        intro hc
        refine ⟨p, p + 1, 3, C p, fun num => ⟨num, ?_, fun q => by cases q⟩, fun val => ⟨nI (C p), ?_, fun _ => rfl⟩, q2, by omega, Or.inr (by omega), by omega, (fun q => by cases q), fun _ => hc⟩
        · rw [cl]
          rcases hc with q | q | q | q | q <;> rw [q] <;> simp only [bz1, ob_some, if_neg ne10, if_pos (show nI 118 = (118 : Int32) from rfl), if_pos (show nI 101 = (101 : Int32) from rfl), if_pos (show nI 114 = (114 : Int32) from rfl), if_pos (show nI 115 = (115 : Int32) from rfl), if_pos (show nI 59 = (59 : Int32) from rfl), if_neg (show ¬ nI 101 = (118 : Int32) by decide), if_neg (show ¬ nI 114 = (118 : Int32) by decide), if_neg (show ¬ nI 115 = (118 : Int32) by decide), if_neg (show ¬ nI 59 = (118 : Int32) by decide), if_neg (show ¬ nI 114 = (101 : Int32) by decide), if_neg (show ¬ nI 115 = (101 : Int32) by decide), if_neg (show ¬ nI 59 = (101 : Int32) by decide), if_neg (show ¬ nI 115 = (114 : Int32) by decide), if_neg (show ¬ nI 59 = (114 : Int32) by decide), if_neg (show ¬ nI 59 = (115 : Int32) by decide)] <;> rfl
        · rw [rf]
          rcases hc with q | q | q | q | q <;> rw [q] <;> simp only [if_pos (show nI 118 = (118 : Int32) from rfl), if_pos (show nI 101 = (101 : Int32) from rfl), if_pos (show nI 114 = (114 : Int32) from rfl), if_pos (show nI 115 = (115 : Int32) from rfl), if_pos (show nI 59 = (59 : Int32) from rfl), if_neg (show ¬ nI 118 = (59 : Int32) by decide), if_neg (show ¬ nI 101 = (59 : Int32) by decide), if_neg (show ¬ nI 114 = (59 : Int32) by decide), if_neg (show ¬ nI 115 = (59 : Int32) by decide), if_neg (show ¬ nI 101 = (118 : Int32) by decide), if_neg (show ¬ nI 114 = (118 : Int32) by decide), if_neg (show ¬ nI 115 = (118 : Int32) by decide), if_neg (show ¬ nI 114 = (101 : Int32) by decide), if_neg (show ¬ nI 115 = (101 : Int32) by decide), if_neg (show ¬ nI 115 = (114 : Int32) by decide)] <;> rfl
      by_cases hc : C p = 118 ∨ C p = 101 ∨ C p = 114 ∨ C p = 115 ∨ C p = 59
      · exact sign hc
      · have n1 : ¬ nI (C p) = (118 : Int32) := nI_ne (b := 118) (by omega) (by omega) (by omega)
        have n2 : ¬ nI (C p) = (101 : Int32) := nI_ne (b := 101) (by omega) (by omega) (by omega)
        have n3 : ¬ nI (C p) = (114 : Int32) := nI_ne (b := 114) (by omega) (by omega) (by omega)
        have n4 : ¬ nI (C p) = (115 : Int32) := nI_ne (b := 115) (by omega) (by omega) (by omega)
        have n5 : ¬ nI (C p) = (59 : Int32) := nI_ne (b := 59) (by omega) (by omega) (by omega)
        refine ⟨p, p + 1, 1, 0, fun num => ⟨num, ?_, fun q => by cases q⟩, fun val => ⟨nI (C p), ?_, fun q => absurd q (by decide)⟩, q2, by omega, Or.inr (by omega), by omega, (fun q => by cases q), (fun q => by cases q)⟩
        · rw [cl, if_neg n1, if_neg n2, if_neg n3, if_neg n4, if_neg n5, bz0, ob_some, if_pos rfl]
          rfl
        · rw [rf, if_neg n5, if_neg n1, if_neg n2, if_neg n3, if_neg n4]
          rfl
