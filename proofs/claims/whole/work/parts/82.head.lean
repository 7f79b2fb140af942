/-! ===== pure: the head of an item, all items ===== -/
theorem h104 {N t p : Nat} (hp : p ≤ 200) (B : B70T) (l1 n0 tk vl told : Int32) (deaf len many slow tx : Nat → Int32) : fX12_valley_104 B N l1 (nI t) n0 tk (nI p) vl (-1) told deaf len many slow tx = B (l1 + 1) n0 tk (nI p) vl (nI p) told deaf len many slow := by
  unfold fX12_valley_104 fX12_valley_105
  rw [takesN, ob_some]
  simp only
  rw [isW0 hp, ob_some, if_pos rfl, v121F hp]
theorem h105 {N : Nat} (hN : 400 ≤ N) {t : Nat} {C : Nat → Nat} {lt tx : Nat → Int32} (h : TX t C lt tx) {e : Nat} (he : e ≤ t) (B : B70T) (l1 tk pc vl told : Int32) (deaf len many slow : Nat → Int32) : ∃ n1 t1 p1 v1, RSt N t lt tx e n1 t1 p1 v1 ∧ fX12_valley_105 B N l1 1 (nI t) (nI e) tk pc vl (-1) told deaf len many slow tx = RI N t tx B l1 vl n1 t1 p1 v1 told deaf len many slow := by
  obtain ⟨n1, t1, p1, v1, q1, q2⟩ := takesY hN h he tk pc vl
  refine ⟨n1, t1, p1, v1, q2, ?_⟩
  unfold fX12_valley_105
  rw [q1, ob_some]
  simp only
  rw [isW1, ob_some, if_neg ne10]
  rfl
theorem mayBr (rt st : Bool) (many : Nat → Int32) : fX12_mayBegin (nI 114) (nI ((if rt then 1 else 0) + (if st then 2 else 0))) many = some (fl (!rt)) := by
  unfold fX12_mayBegin fX12_mayBegin_67 fX12_mayBegin_71 fX12_mayBegin_72
  rw [if_neg (show ¬ nI 114 = (118 : Int32) by decide), if_neg (show ¬ nI 114 = (101 : Int32) by decide), if_pos (show nI 114 = (114 : Int32) from rfl), bz1, bz0]
  cases rt <;> cases st <;> decide
theorem mayBs (rt st : Bool) (many : Nat → Int32) : fX12_mayBegin (nI 115) (nI ((if rt then 1 else 0) + (if st then 2 else 0))) many = some (fl (!st)) := by
  unfold fX12_mayBegin fX12_mayBegin_67 fX12_mayBegin_71 fX12_mayBegin_72
  rw [if_neg (show ¬ nI 115 = (118 : Int32) by decide), if_neg (show ¬ nI 115 = (101 : Int32) by decide), if_neg (show ¬ nI 115 = (114 : Int32) by decide), bz1, bz0]
  cases rt <;> cases st <;> decide
theorem mayBe1 (told : Int32) (many : Nat → Int32) : fX12_mayBegin (nI 101) told many = some 1 := by
  unfold fX12_mayBegin fX12_mayBegin_67 fX12_mayBegin_72
  rw [if_neg (show ¬ nI 101 = (118 : Int32) by decide), if_pos (show nI 101 = (101 : Int32) from rfl), bz1]
abbrev R13 : Type := Int32 × Int32 × Int32 × Int32 × Int32 × Int32 × Int32 × Int32 × Int32 × Int32 × Int32 × (Nat → Int32) × (Nat → Int32)
theorem item_h {N : Nat} (hN : 400 ≤ N) {t : Nat} {C : Nat → Nat} {lt tx : Nat → Int32} (h : TX t C lt tx) {s p e k x : Nat} (hL : Lex N t lt tx s p e k x) (hk : k ≠ 0) {vl : Int32} (hvl : 2 ≤ k → vl = nI x) {v : AV} {rt st : Bool} {cn cd cr cs crt cst : Int32} {sl wy : Nat → Int32} (hd : DC v rt st cn cd cr cs crt cst sl wy) {told : Int32} {deaf len many slow : Nat → Int32} (hf : DF v rt st told deaf len many slow) (ho : OkD v) (num : Int32) (B K : B70T) (l1 : Int32) :
    (∃ q, ∃ o : R13, q ≤ t ∧ fX8_readItem N (nI t) (nI p) (nI e) (tkC k x) num lt cn cd cr cs crt cst sl wy = some o ∧ o.1 = 0 ∧ o.2.1 = nI q ∧ FltB B l1 deaf len many slow q (fX12_valley_70 B K N l1 (nI t) (nI e) (tkR k x) (nI p) vl (-1) told deaf len many slow tx)) ∨
    (∃ v' rt' st' e', ∃ o : R13, e < e' ∧ e' ≤ t ∧ fX8_readItem N (nI t) (nI p) (nI e) (tkC k x) num lt cn cd cr cs crt cst sl wy = some o ∧ o.1 = 1 ∧ o.2.2.1 = nI e' ∧ DC v' rt' st' o.2.2.2.2.2.1 o.2.2.2.2.2.2.1 o.2.2.2.2.2.2.2.1 o.2.2.2.2.2.2.2.2.1 o.2.2.2.2.2.2.2.2.2.1 o.2.2.2.2.2.2.2.2.2.2.1 o.2.2.2.2.2.2.2.2.2.2.2.1 o.2.2.2.2.2.2.2.2.2.2.2.2 ∧ OkB N t lt tx B l1 deaf len many slow v' rt' st' e' (fX12_valley_70 B K N l1 (nI t) (nI e) (tkR k x) (nI p) vl (-1) told deaf len many slow tx)) := by
  obtain ⟨L1, L2, L3, L4, L5, L6, L7, L8⟩ := hL
  have ht := h.1
  have hp : p ≤ 200 := by omega
  have flt : ∀ Z, Z = fX12_valley_104 B N l1 (nI t) (nI e) (tkR k x) (nI p) vl (-1) told deaf len many slow tx → FltB B l1 deaf len many slow p Z := by
    intro Z hZ
    subst hZ
    rw [h104 hp]
    exact ⟨_, _, _, _, _, _, _, _, _, rfl, Keep_refl _ _ _ _⟩
  have bad : ∀ (c : Int32), tkC k x = c → ¬ c = 101 → ¬ c = 114 → ¬ c = 115 → ¬ c = 118 → ¬ tkR k x = 0 → ¬ tkR k x = 1 → (∃ q, ∃ o : R13, q ≤ t ∧ fX8_readItem N (nI t) (nI p) (nI e) (tkC k x) num lt cn cd cr cs crt cst sl wy = some o ∧ o.1 = 0 ∧ o.2.1 = nI q ∧ FltB B l1 deaf len many slow q (fX12_valley_70 B K N l1 (nI t) (nI e) (tkR k x) (nI p) vl (-1) told deaf len many slow tx)) := by
    intro c hc n1 n2 n3 n4 n5 n6
    refine ⟨p, (0, nI p, nI e, tkC k x, num, cn, cd, cr, cs, crt, cst, sl, wy), L3, ?_, rfl, rfl, flt _ ?_⟩
    · unfold fX8_readItem
      rw [hc, if_neg n1, if_neg n2, if_neg n3, if_neg n4]
    · unfold fX12_valley_70
      rw [isW1, ob_some, if_neg ne10, if_neg n5, if_neg n6]
  rcases (show k = 1 ∨ k = 2 ∨ k = 3 by omega) with rfl | rfl | rfl
  · exact Or.inl (bad 0 rfl (by decide) (by decide) (by decide) (by decide) (show ¬ (4 : Int32) = 0 by decide) (show ¬ (4 : Int32) = 1 by decide))
  · exact Or.inl (bad 2 rfl (by decide) (by decide) (by decide) (by decide) (show ¬ (2 : Int32) = 0 by decide) (show ¬ (2 : Int32) = 1 by decide))
  · have hvx := hvl (by omega)
    subst hvx
    obtain ⟨n1, t1, p1, v1, r1, r2⟩ := h105 hN h L4 B l1 (tkR 3 x) (nI p) (nI x) told deaf len many slow
    have hf1 := hf.1
    have hd' := hd
    obtain ⟨d1, d2, d4, d5, d6, d7, d8, d9⟩ := hd'
    have hgo : ∀ (q : Bool), tkR 3 x = 1 → fX12_mayBegin (nI x) told many = some (fl q) → (q = true → fX12_valley_70 B K N l1 (nI t) (nI e) (tkR 3 x) (nI p) (nI x) (-1) told deaf len many slow tx = RI N t tx B l1 (nI x) n1 t1 p1 v1 told deaf len many slow) ∧ (q = false → fX12_valley_70 B K N l1 (nI t) (nI e) (tkR 3 x) (nI p) (nI x) (-1) told deaf len many slow tx = fX12_valley_104 B N l1 (nI t) (nI e) (tkR 3 x) (nI p) (nI x) (-1) told deaf len many slow tx) := by
      intro q hq1 hq2
      unfold fX12_valley_70
      rw [isW1, ob_some, if_neg ne10, if_neg (show ¬ tkR 3 x = 0 by rw [hq1]; decide), if_pos hq1, hq2, ob_some]
      constructor
      · intro hq
        rw [hq, if_neg (show ¬ fl true = 0 by decide), r2]
      · intro hq
        rw [hq, if_pos (show fl false = 0 from rfl)]
    rcases L8 rfl with rfl | rfl | rfl | rfl | rfl
    · have hmb : fX12_mayBegin (nI 118) told many = some (fl (decide (vN v < 6))) := by
        unfold fX12_mayBegin fX12_mayBegin_72
        rw [if_pos (show nI 118 = (118 : Int32) from rfl), hf.2.1, bz0, bz1]
        have := ho.1
        by_cases q : vN v < 6
        · rw [if_neg (show ¬ (6 : Int32) ≤ nI (vN v) from nI_ge (b := 6) q (by omega)), decide_eq_true q]
          rfl
        · rw [if_pos (show (6 : Int32) ≤ nI (vN v) from nI_le (a := 6) (by omega) (by omega)), decide_eq_false q]
          rfl
      obtain ⟨g1, g2⟩ := hgo _ rfl hmb
      unfold fX8_readItem
      rw [if_neg (show ¬ tkC 3 118 = 101 by decide), if_neg (show ¬ tkC 3 118 = 114 by decide), if_neg (show ¬ tkC 3 118 = 115 by decide), if_pos (show tkC 3 118 = 118 by decide)]
      by_cases q6 : vN v < 6
      · rw [g1 (decide_eq_true q6)]
        rcases item_v hN h r1 hd hf ho q6 (nI p) (tkC 3 118) num B l1 with ⟨q, o, a1, a2, a3, a4, a5⟩ | ⟨v', e', o, a1, a2, a3, a4, a5, a6, a7⟩
        · left
          refine ⟨q, (o.1, o.2.1, o.2.2.1, o.2.2.2.1, o.2.2.2.2.1, o.2.2.2.2.2.1, o.2.2.2.2.2.2.1, cr, cs, crt, cst, o.2.2.2.2.2.2.2, wy), a1, ?_, a3, a4, a5⟩
          rw [a2, ob_some, a3, bz0]
        · right
          refine ⟨v', rt, st, e', (o.1, o.2.1, o.2.2.1, o.2.2.2.1, o.2.2.2.2.1, o.2.2.2.2.2.1, o.2.2.2.2.2.2.1, cr, cs, crt, cst, o.2.2.2.2.2.2.2, wy), a1, a2, ?_, a4, a5, a6, a7⟩
          rw [a3, ob_some, a4, bz1]
      · left
        rw [g2 (decide_eq_false q6)]
        have := ho.1
        refine ⟨p, (0, nI p, nI e, tkC 3 118, num, cn, cd, cr, cs, crt, cst, sl, wy), L3, ?_, rfl, rfl, flt _ rfl⟩
        unfold fX8_readVillage
        rw [d1, if_neg (show ¬ nI (vN v) < (6 : Int32) from nI_nlt (b := 6) (by omega) (by omega)), ob_some]
        simp only [bz0]
    · obtain ⟨g1, g2⟩ := hgo true rfl (mayBe1 told many)
      unfold fX8_readItem
      rw [if_pos (show tkC 3 101 = 101 by decide), g1 rfl]
      rcases item_e hN h r1 hd hf ho num B l1 with ⟨q, o, a1, a2, a3, a4, a5⟩ | ⟨v', e', o, a1, a2, a3, a4, a5, a6, a7⟩
      · left
        refine ⟨q, (o.1, o.2.1, o.2.2.1, o.2.2.2.1, o.2.2.2.2.1, cn, cd, cr, cs, crt, cst, sl, o.2.2.2.2.2), a1, ?_, a3, a4, a5⟩
        rw [a2, ob_some, a3, bz0]
      · right
        refine ⟨v', rt, st, e', (o.1, o.2.1, o.2.2.1, o.2.2.2.1, o.2.2.2.2.1, cn, cd, cr, cs, crt, cst, sl, o.2.2.2.2.2), a1, a2, ?_, a4, a5, a6, a7⟩
        rw [a3, ob_some, a4, bz1]
    · obtain ⟨g1, g2⟩ := hgo (!rt) rfl (by rw [hf1]; exact mayBr rt st many)
      unfold fX8_readItem
      rw [if_neg (show ¬ tkC 3 114 = 101 by decide), if_pos (show tkC 3 114 = 114 by decide)]
      cases rt with
      | false =>
        rw [g1 rfl]
        rcases item_r hN h r1 hd hf ho (nI p) (tkC 3 114) num B l1 with ⟨q, o, a1, a2, a3, a4, a5⟩ | ⟨v', e', o, a1, a2, a3, a4, a5, a6, a7⟩
        · left
          refine ⟨q, (o.1, o.2.1, o.2.2.1, o.2.2.2.1, o.2.2.2.2.1, cn, cd, o.2.2.2.2.2.1, cs, o.2.2.2.2.2.2, cst, sl, wy), a1, ?_, a3, a4, a5⟩
          rw [a2, ob_some, a3, bz0]
        · right
          refine ⟨v', true, st, e', (o.1, o.2.1, o.2.2.1, o.2.2.2.1, o.2.2.2.2.1, cn, cd, o.2.2.2.2.2.1, cs, o.2.2.2.2.2.2, cst, sl, wy), a1, a2, ?_, a4, a5, a6, a7⟩
          rw [a3, ob_some, a4, bz1]
      | true =>
        left
        rw [g2 rfl]
        refine ⟨p, (0, nI p, nI e, tkC 3 114, num, cn, cd, cr, cs, crt, cst, sl, wy), L3, ?_, rfl, rfl, flt _ rfl⟩
        unfold fX8_readReach fX8_readReach_17
        rw [d6, if_neg (show ¬ fl true = 0 by decide), ob_some]
        simp only [bz0]
    · obtain ⟨g1, g2⟩ := hgo (!st) rfl (by rw [hf1]; exact mayBs rt st many)
      unfold fX8_readItem
      rw [if_neg (show ¬ tkC 3 115 = 101 by decide), if_neg (show ¬ tkC 3 115 = 114 by decide), if_pos (show tkC 3 115 = 115 by decide)]
      cases st with
      | false =>
        rw [g1 rfl]
        rcases item_s hN h r1 hd hf ho (nI p) (tkC 3 115) num B l1 with ⟨q, o, a1, a2, a3, a4, a5⟩ | ⟨v', e', o, a1, a2, a3, a4, a5, a6, a7⟩
        · left
          refine ⟨q, (o.1, o.2.1, o.2.2.1, o.2.2.2.1, o.2.2.2.2.1, cn, cd, cr, o.2.2.2.2.2.1, crt, o.2.2.2.2.2.2, sl, wy), a1, ?_, a3, a4, a5⟩
          rw [a2, ob_some, a3, bz0]
        · right
          refine ⟨v', rt, true, e', (o.1, o.2.1, o.2.2.1, o.2.2.2.1, o.2.2.2.2.1, cn, cd, cr, o.2.2.2.2.2.1, crt, o.2.2.2.2.2.2, sl, wy), a1, a2, ?_, a4, a5, a6, a7⟩
          rw [a3, ob_some, a4, bz1]
      | true =>
        left
        rw [g2 rfl]
        refine ⟨p, (0, nI p, nI e, tkC 3 115, num, cn, cd, cr, cs, crt, cst, sl, wy), L3, ?_, rfl, rfl, flt _ rfl⟩
        unfold fX8_readStart fX8_readStart_21
        rw [d7, if_neg (show ¬ fl true = 0 by decide), ob_some]
        simp only [bz0]
    · exact Or.inl (bad 59 rfl (by decide) (by decide) (by decide) (by decide) (by decide) (by decide))
