/-! ===== pure: numbers and ends of items, read by both ===== -/
theorem isW1 : fX12_isWell (-1) = some 1 := by
  unfold fX12_isWell fX12_isWell_12
  rw [if_neg (show ¬ (0 : Int32) ≤ -1 by decide), bz1]
theorem isW0 {p : Nat} (h : p ≤ 200) : fX12_isWell (nI p) = some 0 := by
  unfold fX12_isWell fX12_isWell_12
  rw [if_pos (show (0 : Int32) ≤ nI p from nI_pos' (by omega)), bz0]
/-- the reference stands ahead of s, a token read -/
def RSt (N t : Nat) (lt tx : Nat → Int32) (s : Nat) (nx' tk pc vl : Int32) : Prop := ∃ p e k x, Lex N t lt tx s p e k x ∧ nx' = nI e ∧ tk = tkR k x ∧ pc = nI p ∧ (2 ≤ k → vl = nI x)
theorem takesY {N : Nat} (hN : 400 ≤ N) {t : Nat} {C : Nat → Nat} {lt tx : Nat → Int32} (h : TX t C lt tx) {e : Nat} (he : e ≤ t) (tk pc vl : Int32) : ∃ n1 t1 p1 v1, fX12_takes N 1 (nI t) (nI e) tk pc vl (-1) tx = some (vl, n1, t1, p1, v1, -1) ∧ RSt N t lt tx e n1 t1 p1 v1 := by
  obtain ⟨p, e', k, x, hL⟩ := lex_ex hN h he
  obtain ⟨v1, q1, q2⟩ := hL.2.1 vl
  refine ⟨_, _, _, v1, ?_, p, e', k, x, hL, rfl, rfl, rfl, q2⟩
  unfold fX12_takes
  rw [isW1, ob_some, if_neg ne10, if_neg ne10, q1, ob_some]
theorem takesN {N t : Nat} {tx : Nat → Int32} (n1 tk pc vl : Int32) : fX12_takes N 0 (nI t) n1 tk pc vl (-1) tx = some (0, n1, tk, pc, vl, pc) := by
  unfold fX12_takes
  rw [isW1, ob_some, if_neg ne10, if_pos rfl]
theorem takesF {N t p : Nat} (hp : p ≤ 200) {tx : Nat → Int32} (l n1 tk pc vl : Int32) : fX12_takes N l (nI t) n1 tk pc vl (nI p) tx = some (0, n1, tk, pc, vl, nI p) := by
  unfold fX12_takes
  rw [isW0 hp, ob_some, if_pos rfl]
theorem in01 (x a b : Int32) : fX12_in x a b = some 1 ∨ fX12_in x a b = some 0 := by
  rcases rng x a b with ⟨h, -⟩ | ⟨h, -⟩
  · exact Or.inl h
  · exact Or.inr h
theorem numF {N t p : Nat} (hp : p ≤ 200) {tx : Nat → Int32} (l1 l2 n1 tk pc vl : Int32) : fX12_number N l1 l2 (nI t) n1 tk pc vl (nI p) tx = some (0, n1, tk, pc, vl, nI p) := by
  unfold fX12_number fX12_number_25 fX12_number_26
  simp only [takesF hp, ob_some]
  rcases in01 vl l1 l2 with e | e
  · rw [e, ob_some, if_neg ne10, ite_self]
  · rw [e, ob_some, if_pos rfl, ite_self]
theorem tkne {k x : Nat} (hk : k ≤ 3) (h2 : k ≠ 2) (hx : k = 3 → x = 118 ∨ x = 101 ∨ x = 114 ∨ x = 115 ∨ x = 59) : ¬ tkC k x = 2 ∧ ¬ tkR k x = 2 := by
  rcases (show k = 0 ∨ k = 1 ∨ k = 3 by omega) with rfl | rfl | rfl
  · exact ⟨show ¬ (1 : Int32) = 2 by decide, show ¬ (0 : Int32) = 2 by decide⟩
  · exact ⟨show ¬ (0 : Int32) = 2 by decide, show ¬ (4 : Int32) = 2 by decide⟩
  · rcases hx rfl with rfl | rfl | rfl | rfl | rfl <;> exact ⟨by decide, by decide⟩
theorem tkend {k x : Nat} (hk : k ≤ 3) (hx : k = 3 → x = 118 ∨ x = 101 ∨ x = 114 ∨ x = 115 ∨ x = 59) : (tkC k x = 59 ∧ tkR k x = 3) ∨ (¬ tkC k x = 59 ∧ ¬ tkR k x = 3) := by
  rcases (show k = 0 ∨ k = 1 ∨ k = 2 ∨ k = 3 by omega) with rfl | rfl | rfl | rfl
  · exact Or.inr ⟨show ¬ (1 : Int32) = 59 by decide, show ¬ (0 : Int32) = 3 by decide⟩
  · exact Or.inr ⟨show ¬ (0 : Int32) = 59 by decide, show ¬ (4 : Int32) = 3 by decide⟩
  · exact Or.inr ⟨show ¬ (2 : Int32) = 59 by decide, show ¬ (2 : Int32) = 3 by decide⟩
  · rcases hx rfl with rfl | rfl | rfl | rfl | rfl
    · exact Or.inr ⟨by decide, by decide⟩
    · exact Or.inr ⟨by decide, by decide⟩
    · exact Or.inr ⟨by decide, by decide⟩
    · exact Or.inr ⟨by decide, by decide⟩
    · exact Or.inl ⟨by decide, by decide⟩
theorem numS {N : Nat} (hN : 400 ≤ N) {t : Nat} {C : Nat → Nat} {lt tx : Nat → Int32} (h : TX t C lt tx) {s : Nat} {n0 tk pc vl : Int32} (hr : RSt N t lt tx s n0 tk pc vl) (l1 l2 num : Int32) :
    (∃ x e n1 t1 p1 v1, x ≤ 20 ∧ ¬ nI x < l1 ∧ ¬ l2 < nI x ∧ s < e ∧ e ≤ t ∧ fX8_readNumber N l1 l2 (nI t) (nI s) num lt = some (1, pc, nI e, 2, nI x) ∧ tk = 2 ∧ vl = nI x ∧ fX12_in vl l1 l2 = some 1 ∧ fX12_takes N 1 (nI t) n0 tk pc vl (-1) tx = some (nI x, n1, t1, p1, v1, -1) ∧ fX12_number N l1 l2 (nI t) n0 tk pc vl (-1) tx = some (nI x, n1, t1, p1, v1, -1) ∧ RSt N t lt tx e n1 t1 p1 v1) ∨
    (∃ p a b c, p ≤ t ∧ pc = nI p ∧ fX8_readNumber N l1 l2 (nI t) (nI s) num lt = some (0, pc, a, b, c) ∧ (¬ tk = 2 ∨ fX12_in vl l1 l2 = some 0) ∧ fX12_number N l1 l2 (nI t) n0 tk pc vl (-1) tx = some (0, n0, tk, pc, vl, pc)) := by
  obtain ⟨p, e, k, x, hL, rfl, rfl, rfl, hvl⟩ := hr
  obtain ⟨L1, L2, L3, L4, L5, L6, L7, L8⟩ := hL
  obtain ⟨num', r1, r2⟩ := L1 num
  unfold fX8_readNumber fX8_readNumber_32 fX8_readNumber_33 fX12_number fX12_number_25 fX12_number_26
  rw [r1, ob_some]
  simp only [takesN, ob_some, bz0, bz1]
  by_cases hk : k = 2
  · subst hk
    have hv := hvl (by omega)
    have hn := r2 rfl
    subst hv
    subst hn
    have e1 : tkC 2 x = 2 := rfl
    have e2 : tkR 2 x = 2 := rfl
    rw [e1, e2, if_pos rfl, if_pos rfl]
    rcases rng (nI x) l1 l2 with ⟨h1, -, h3, h4⟩ | ⟨h1, -, h3⟩
    · left
      obtain ⟨n1, t1, p1, v1, q1, q2⟩ := takesY hN h L4 2 (nI p) (nI x)
      refine ⟨x, e, n1, t1, p1, v1, L7 rfl, h3, h4, by omega, L4, ?_, rfl, rfl, h1, q1, ?_, q2⟩
      · rw [if_neg h3, if_neg h4]
      · rw [h1, ob_some, if_neg ne10, q1, ob_some]
    · right
      refine ⟨p, nI e, 2, nI x, L3, rfl, ?_, Or.inr h1, ?_⟩
      · by_cases q : nI x < l1
        · rw [if_pos q]
        · rw [if_neg q, if_pos (h3.resolve_left q)]
      · rw [h1, ob_some, if_pos rfl]
  · obtain ⟨e1, e2⟩ := tkne L6 hk L8
    rw [if_neg e1, if_neg e2]
    exact Or.inr ⟨p, nI e, tkC k x, num', L3, rfl, rfl, Or.inl e2, rfl⟩
theorem endS {N : Nat} (hN : 400 ≤ N) {t : Nat} {C : Nat → Nat} {lt tx : Nat → Int32} (h : TX t C lt tx) {s : Nat} {n0 tk pc vl : Int32} (hr : RSt N t lt tx s n0 tk pc vl) (num : Int32) :
    (∃ e n1 t1 p1 v1 c d, s < e ∧ e ≤ t ∧ fX8_readItemEnd N (nI t) (nI s) num lt = some (1, pc, nI e, c, d) ∧ tk = 3 ∧ fX12_takes N 1 (nI t) n0 tk pc vl (-1) tx = some (vl, n1, t1, p1, v1, -1) ∧ RSt N t lt tx e n1 t1 p1 v1) ∨
    (∃ p a b c, p ≤ t ∧ pc = nI p ∧ fX8_readItemEnd N (nI t) (nI s) num lt = some (0, pc, a, b, c) ∧ ¬ tk = 3) := by
  obtain ⟨p, e, k, x, hL, rfl, rfl, rfl, hvl⟩ := hr
  obtain ⟨L1, L2, L3, L4, L5, L6, L7, L8⟩ := hL
  obtain ⟨num', r1, r2⟩ := L1 num
  unfold fX8_readItemEnd fX8_readItemEnd_18
  rw [r1, ob_some]
  simp only [bz0, bz1]
  rcases tkend L6 L8 with ⟨e1, e2⟩ | ⟨e1, e2⟩
  · left
    obtain ⟨n1, t1, p1, v1, q1, q2⟩ := takesY hN h L4 (tkR k x) (nI p) vl
    have hk : k ≠ 0 := by
      intro q
      subst q
      exact absurd e2 (show ¬ (0 : Int32) = 3 by decide)
    exact ⟨e, n1, t1, p1, v1, tkC k x, num', by omega, L4, if_pos e1, e2, q1, q2⟩
  · right
    exact ⟨p, nI e, tkC k x, num', L3, rfl, if_neg e1, e2⟩
/-! the draft -/
def DC (v : AV) (rt st : Bool) (n0 d0 r0 s0 rt0 st0 : Int32) (sl wy : Nat → Int32) : Prop := n0 = nI (vN v) ∧ (∃ D, D < 64 ∧ d0 = nI D ∧ ∀ a, a < 6 → D.testBit a = vD v a) ∧ r0 = nI (vR v) ∧ s0 = nI (vS v) ∧ rt0 = fl rt ∧ st0 = fl st ∧ (∀ a, a < 6 → sl a = nI (if a < vN v then vL v a else 0)) ∧ (∀ a b, a < 6 → b < 6 → wy (6 * a + b) = nI (vW v a b))
def DF (v : AV) (rt st : Bool) (told : Int32) (deaf len many slow : Nat → Int32) : Prop := told = nI ((if rt then 1 else 0) + (if st then 2 else 0)) ∧ many 3 = nI (vN v) ∧ many 4 = nI (vR v) ∧ many 5 = nI (vS v) ∧ (∀ a, a < vN v → slow (6 + a) = nI (vL v a) ∧ deaf (6 + a) = if vD v a then 1 else 0) ∧ (∀ a b, a < 6 → b < 6 → len (36 + 6 * a + b) = nI (vW v a b))
def OkD (v : AV) : Prop := vN v ≤ 6 ∧ 1 ≤ vR v ∧ vR v ≤ 20 ∧ (vS v < vN v ∨ vS v = 0) ∧ (∀ a b, vW v a b = vW v b a) ∧ (∀ a, vW v a a = 0) ∧ (∀ a b, vW v a b ≤ 9) ∧ (∀ a, vL v a ≤ 9) ∧ (∀ a, vN v ≤ a → vD v a = false)
def Keep (deaf len many slow deaf' len' many' slow' : Nat → Int32) : Prop := (∀ j, j < 3 → many' j = many j) ∧ (∀ j, j < 36 → len' j = len j) ∧ (∀ j, j < 6 → slow' j = slow j ∧ deaf' j = deaf j)
theorem Keep_refl (deaf len many slow : Nat → Int32) : Keep deaf len many slow deaf len many slow := ⟨fun _ _ => rfl, fun _ _ => rfl, fun _ _ => ⟨rfl, rfl⟩⟩
theorem Keep_trans {d1 l1 m1 s1 d2 l2 m2 s2 d3 l3 m3 s3 : Nat → Int32} (h : Keep d1 l1 m1 s1 d2 l2 m2 s2) (g : Keep d2 l2 m2 s2 d3 l3 m3 s3) : Keep d1 l1 m1 s1 d3 l3 m3 s3 := ⟨fun j hj => (g.1 j hj).trans (h.1 j hj), fun j hj => (g.2.1 j hj).trans (h.2.1 j hj), fun j hj => ⟨(g.2.2 j hj).1.trans (h.2.2 j hj).1, (g.2.2 j hj).2.trans (h.2.2 j hj).2⟩⟩
abbrev V18 : Type := Option (Int32 × Int32 × Int32 × Int32 × Int32 × Int32 × Int32 × Int32 × Int32 × Int32 × Int32 × Int32 × (Nat → Int32) × (Nat → Int32) × (Nat → Int32) × (Nat → Int32) × (Nat → Int32) × (Nat → Int32))
abbrev B70T : Type := Int32 → Int32 → Int32 → Int32 → Int32 → Int32 → Int32 → (Nat → Int32) → (Nat → Int32) → (Nat → Int32) → (Nat → Int32) → V18
/-- an item ends the reading at q -/
def FltB (B : B70T) (l1 : Int32) (deaf len many slow : Nat → Int32) (q : Nat) (Z : V18) : Prop := ∃ n1 t1 p1 v1 told' deaf' len' many' slow', Z = B (l1 + 1) n1 t1 p1 v1 (nI q) told' deaf' len' many' slow' ∧ Keep deaf len many slow deaf' len' many' slow'
/-- an item is read, up to e -/
def OkB (N t : Nat) (lt tx : Nat → Int32) (B : B70T) (l1 : Int32) (deaf len many slow : Nat → Int32) (v : AV) (rt st : Bool) (e : Nat) (Z : V18) : Prop := ∃ n1 t1 p1 v1 told' deaf' len' many' slow', Z = B (l1 + 1) n1 t1 p1 v1 (-1) told' deaf' len' many' slow' ∧ Keep deaf len many slow deaf' len' many' slow' ∧ RSt N t lt tx e n1 t1 p1 v1 ∧ DF v rt st told' deaf' len' many' slow' ∧ OkD v
theorem v121F {N t p : Nat} (hp : p ≤ 200) (B : B70T) (l1 n1 tk pc vl told : Int32) (deaf len many slow tx : Nat → Int32) : fX12_valley_121 B N l1 (nI t) n1 tk pc vl (nI p) told deaf len many slow tx = B (l1 + 1) n1 tk pc vl (nI p) told deaf len many slow := by
  unfold fX12_valley_121 fX12_valley_135
  rw [takesF hp, takesF hp, ob_some, ite_self]
theorem v121S {N : Nat} (hN : 400 ≤ N) {t : Nat} {C : Nat → Nat} {lt tx : Nat → Int32} (h : TX t C lt tx) {s : Nat} {n0 tk pc vl : Int32} (hr : RSt N t lt tx s n0 tk pc vl) (num : Int32) (B : B70T) (l1 told : Int32) (deaf len many slow : Nat → Int32) :
    (∃ e n1 t1 p1 v1 c d, s < e ∧ e ≤ t ∧ fX8_readItemEnd N (nI t) (nI s) num lt = some (1, pc, nI e, c, d) ∧ fX12_valley_121 B N l1 (nI t) n0 tk pc vl (-1) told deaf len many slow tx = B (l1 + 1) n1 t1 p1 v1 (-1) told deaf len many slow ∧ RSt N t lt tx e n1 t1 p1 v1) ∨
    (∃ p a b c, p ≤ t ∧ pc = nI p ∧ fX8_readItemEnd N (nI t) (nI s) num lt = some (0, pc, a, b, c) ∧ fX12_valley_121 B N l1 (nI t) n0 tk pc vl (-1) told deaf len many slow tx = B (l1 + 1) n0 tk pc vl (nI p) told deaf len many slow) := by
  unfold fX12_valley_121 fX12_valley_135
  rcases endS hN h hr num with ⟨e, n1, t1, p1, v1, c, d, e1, e2, e3, e4, e5, e6⟩ | ⟨p, a, b, c, e1, e2, e3, e4⟩
  · exact Or.inl ⟨e, n1, t1, p1, v1, c, d, e1, e2, e3, by rw [if_pos e4, e5, ob_some], e6⟩
  · exact Or.inr ⟨p, a, b, c, e1, e2, e3, by rw [if_neg e4, takesN, ob_some, e2]⟩
theorem bor0 : ∀ (D : Fin 64) (v : Fin 6) (b : Fin 2), ((nI D.val) ||| ((nI b.val) <<< (nI v.val &&& 31))) = nI (D.val ||| (b.val <<< v.val)) ∧ (D.val ||| (b.val <<< v.val)) < 64 ∧ ∀ w : Fin 6, (D.val ||| (b.val <<< v.val)).testBit w.val = (D.val.testBit w.val || (decide (w.val = v.val) && decide (b.val = 1))) := by decide +kernel
theorem bor {D v b : Nat} (hD : D < 64) (hv : v < 6) (hb : b ≤ 1) : ∃ E, E < 64 ∧ ((nI D) ||| ((nI b) <<< (nI v &&& 31))) = nI E ∧ ∀ w, w < 6 → E.testBit w = (D.testBit w || (decide (w = v) && decide (b = 1))) := by
  obtain ⟨h1, h2, h3⟩ := bor0 ⟨D, hD⟩ ⟨v, hv⟩ ⟨b, by omega⟩
  exact ⟨_, h2, h1, fun w hw => h3 ⟨w, hw⟩⟩
