/-! ===== pure: a mule more ===== -/
def addM (a : AN) (i g : Nat) : AN := (aK a, aB a, aP a, aG a, aM a + 1, aS a, aD a, (fun k => if k = aM a then i / 6 else aF a k), (fun k => if k = aM a then i % 6 else aT a k), (fun k => if k = aM a then g else aL a k), aX a)
theorem mus_congr {F T L F' T' L' : Nat → Nat} {x y b : Nat} : ∀ (k : Nat), (∀ j, j < k → F' j = F j ∧ T' j = T j ∧ L' j = L j) → mus F' T' L' x y k b = mus F T L x y k b
  | 0, _ => rfl
  | k + 1, h => by
    have q := mus_congr (x := x) (y := y) (b := b) k (fun j hj => h j (by omega))
    obtain ⟨h1, h2, h3⟩ := h k (by omega)
    show mst F' T' L' x y k _ = mst F T L x y k _
    unfold mst
    rw [q, h1, h2, h3]
theorem Hn_addM (W : Nat → Nat → Nat) (R : Nat) (a : AN) (i g x y : Nat) : Hn W R (addM a i g) x y = if i / 6 = x ∧ i % 6 = y ∧ aD a y = false ∧ (Hn W R a x y = 0 ∨ g < Hn W R a x y) then g else Hn W R a x y := by
  unfold Hn
  show (if aD a y = true then 0 else mst (fun k => if k = aM a then i / 6 else aF a k) (fun k => if k = aM a then i % 6 else aT a k) (fun k => if k = aM a then g else aL a k) x y (aM a) (mus (fun k => if k = aM a then i / 6 else aF a k) (fun k => if k = aM a then i % 6 else aT a k) (fun k => if k = aM a then g else aL a k) x y (aM a) (hw W R (aG a) x y))) = _
  rw [mus_congr (F := aF a) (T := aT a) (L := aL a) (aM a) (fun j hj => by
    have hj' : j ≠ aM a := by omega
    exact ⟨if_neg hj', if_neg hj', if_neg hj'⟩)]
  by_cases h : aD a y = true
  · rw [if_pos h, if_pos h, if_neg (fun c => by rw [h] at c; cases c.2.2.1)]
  · rw [if_neg h, if_neg h]
    have h' : aD a y = false := by cases e : aD a y <;> simp_all
    unfold mst
    simp only [if_true]
    by_cases c : i / 6 = x ∧ i % 6 = y ∧ (mus (aF a) (aT a) (aL a) x y (aM a) (hw W R (aG a) x y) = 0 ∨ g < mus (aF a) (aT a) (aL a) x y (aM a) (hw W R (aG a) x y))
    · rw [if_pos c, if_pos ⟨c.1, c.2.1, h', c.2.2⟩]
    · rw [if_neg c, if_neg (fun q => c ⟨q.1, q.2.1, q.2.2.2⟩)]
theorem Hn_row {W : Nat → Nat → Nat} {R : Nat} {a : AN} {i g x : Nat} (h : x ≠ i / 6) : Hn W R (addM a i g) x = Hn W R a x := by
  funext y
  rw [Hn_addM, if_neg (fun c => h c.1.symm)]
theorem Hn_cell {W : Nat → Nat → Nat} {R : Nat} {a : AN} {i g x y : Nat} (h : 6 * x + y ≠ i) : Hn W R (addM a i g) x y = Hn W R a x y := by
  rw [Hn_addM, if_neg (fun c => h (by omega))]
/-- the course stands for a -/
def Cs (n R : Nat) (W : Nat → Nat → Nat) (a : AN) (gap hear next : Nat → Int32) : Prop := CH (Hn W R a) hear ∧ CN n (aS a) (Hn W R a) gap next
theorem lend_ok {N : Nat} (hN : 10 ≤ N) {n R D i g : Nat} {W : Nat → Nat → Nat} {a : AN} {gap hear next slow : Nat → Int32} (hn : n ≤ 6) (hi : i < 36) (hg : g ≤ 20) (hb : ∀ x y, Hn W R a x y ≤ 20) (hD : D < 64) (hB : ∀ y, y < 6 → D.testBit y = aD a y) (hc : Cs n R W a gap hear next) (hs : ∀ y, y < n → slow y = nI (aS a y)) : ∃ gap' hear' next', fX0_lend N (nI i) (nI g) (nI n) (nI D) gap hear next slow = some (nI (Hn W R a (i / 6) (i % 6)), gap', hear', next') ∧ Cs n R W (addM a i g) gap' hear' next' := by
  obtain ⟨hh, hcn⟩ := hc
  have hi6 : i / 6 < 6 := by omega
  have hm6 : i % 6 < 6 := by omega
  have hdm : 6 * (i / 6) + i % 6 = i := by omega
  have hcell := hh (i / 6) (i % 6) hi6 hm6
  have hsh := shorten_ok hD hi6 hm6 hcell (hb _ _) hg
  rw [hdm] at hcell hsh
  unfold fX0_lend
  rw [rdi_at (j := i) rfl hi (by omega), hcell, hsh, ob_some, div6 hi]
  have hb' : ∀ x y, Hn W R (addM a i g) x y ≤ 20 := fun x y => by
    rw [Hn_addM]
    have := hb x y
    split <;> omega
  have hh' : CH (Hn W R (addM a i g)) (if (Hn W R a (i / 6) (i % 6) = 0 ∨ g < Hn W R a (i / 6) (i % 6)) ∧ ¬ D.testBit (i % 6) = true then upd hear i (nI g) else hear) := by
    intro x y hx hy
    have hBy := hB (i % 6) hm6
    by_cases e : 6 * x + y = i
    · have ex : i / 6 = x := by omega
      have ey : i % 6 = y := by omega
      rw [Hn_addM]
      by_cases c : (Hn W R a (i / 6) (i % 6) = 0 ∨ g < Hn W R a (i / 6) (i % 6)) ∧ ¬ D.testBit (i % 6) = true
      · rw [if_pos c, upd_eq e]
        have c1 := c.1
        have c2 := c.2
        rw [hBy] at c2
        rw [ex, ey] at c1
        rw [ey] at c2
        rw [if_pos ⟨ex, ey, by cases q : aD a y <;> simp_all, c1⟩]
      · rw [if_neg c, if_neg (fun q => c ⟨by rw [ex, ey]; exact q.2.2.2, by rw [hBy, ey, q.2.2.1]; decide⟩)]
        exact hh x y hx hy
    · rw [Hn_cell e]
      split
      · rw [upd_ne e]; exact hh x y hx hy
      · exact hh x y hx hy
  generalize (if (Hn W R a (i / 6) (i % 6) = 0 ∨ g < Hn W R a (i / 6) (i % 6)) ∧ ¬ D.testBit (i % 6) = true then upd hear i (nI g) else hear) = hear' at hh' ⊢
  obtain ⟨gap', next', q1, q2, q3, q4⟩ := findNext_ok hN hn hi6 (h := Hn W R (addM a i g) (i / 6)) (S := aS a) (fun y hy => hh' (i / 6) y hi6 (by omega)) hs (fun y _ => hb' _ y) gap next
  rw [q1, ob_some]
  refine ⟨gap', hear', next', rfl, hh', fun x hx => ?_⟩
  by_cases e : x = i / 6
  · subst e; exact ⟨q2, q3⟩
  · obtain ⟨q5, q6⟩ := q4 x e
    rw [q5, q6, Hn_row e]
    exact hcn x hx
theorem takeBack_ok {N : Nat} (hN : 10 ≤ N) {n R i g : Nat} {W : Nat → Nat → Nat} {a : AN} {gap hear next slow : Nat → Int32} (hn : n ≤ 6) (hi : i < 36) (hb : ∀ x y, Hn W R a x y ≤ 20) (hc : Cs n R W (addM a i g) gap hear next) (hs : ∀ y, y < n → slow y = nI (aS a y)) : ∃ gap' hear' next', fX0_takeBack N (nI i) (nI (Hn W R a (i / 6) (i % 6))) (nI n) gap hear next slow = some (gap', hear', next') ∧ Cs n R W a gap' hear' next' := by
  obtain ⟨hh, hcn⟩ := hc
  have hi6 : i / 6 < 6 := by omega
  unfold fX0_takeBack
  rw [wri_at (j := i) rfl hi (by omega), div6 hi]
  have hh' : CH (Hn W R a) (upd hear i (nI (Hn W R a (i / 6) (i % 6)))) := by
    intro x y hx hy
    by_cases e : 6 * x + y = i
    · have ex : i / 6 = x := by omega
      have ey : i % 6 = y := by omega
      rw [upd_eq e, ex, ey]
    · rw [upd_ne e, hh x y hx hy, Hn_cell e]
  obtain ⟨gap', next', q1, q2, q3, q4⟩ := findNext_ok hN hn hi6 (h := Hn W R a (i / 6)) (S := aS a) (fun y hy => hh' (i / 6) y hi6 (by omega)) hs (fun y _ => hb _ y) gap next
  rw [q1, ob_some]
  refine ⟨gap', _, next', rfl, hh', fun x hx => ?_⟩
  by_cases e : x = i / 6
  · subst e; exact ⟨q2, q3⟩
  · obtain ⟨q5, q6⟩ := q4 x e
    rw [q5, q6, ← Hn_row (g := g) e]
    exact hcn x hx
theorem sent_ok {n i g x b : Nat} {a : AN} {f : Nat → Int32} (hn : n ≤ 6) (hM : aM a ≤ 3) (hi : i < 36) (h1 : i / 6 < n) (h2 : i % 6 < n) (h3 : i / 6 ≠ i % 6) (hg1 : 1 ≤ g) (hg2 : g ≤ 20) (hf : Wk n a f x b) : ∃ f', fX12_sent (nI i / 6) (nI i - nI i / 6 * 6) (nI g) f = some f' ∧ Wk n (addM a i g) f' x b := by
  obtain ⟨⟨f3, g1, fd, f16, hM', fm, hm⟩, s2, s3, s4⟩ := hf
  have i0 : (17 : Int32) + (3 : Int32) * f 16 = nI (17 + 3 * aM a) := by rw [f16]; simp only [litI, pk_mul, nI_add]
  have i1 : nI (17 + 3 * aM a) + (1 : Int32) = nI (18 + 3 * aM a) := by rw [nI_1]; congr 1; omega
  have i2 : nI (17 + 3 * aM a) + (2 : Int32) = nI (19 + 3 * aM a) := by rw [show (2 : Int32) = nI 2 from rfl, nI_add]; congr 1; omega
  unfold fX12_sent
  rw [mod6 hi, div6 hi, lti_eq, i0, wri_at (j := 17 + 3 * aM a) rfl (by omega) (by omega), i1, wri_at (j := 18 + 3 * aM a) rfl (by omega) (by omega), i2, wri_at (j := 19 + 3 * aM a) rfl (by omega) (by omega), lti_eq]
  have hG : upd (upd (upd f (17 + 3 * aM a) (nI (i / 6))) (18 + 3 * aM a) (nI (i % 6))) (19 + 3 * aM a) (nI g) 16 = nI (aM a) := by
    rw [upd_ne (by omega), upd_ne (by omega), upd_ne (by omega), f16]
  rw [hG, nI_1]
  have F : ∀ j, j ≠ 16 → j ≠ 17 + 3 * aM a → j ≠ 18 + 3 * aM a → j ≠ 19 + 3 * aM a → upd (upd (upd (upd f (17 + 3 * aM a) (nI (i / 6))) (18 + 3 * aM a) (nI (i % 6))) (19 + 3 * aM a) (nI g)) 16 (nI (aM a + 1)) j = f j := fun j h1 h2 h3 h4 => by
    rw [upd_ne h1, upd_ne h4, upd_ne h3, upd_ne h2]
  refine ⟨_, rfl, ⟨(F 3 (by omega) (by omega) (by omega) (by omega)).trans f3, g1, fun v hv => (F _ (by omega) (by omega) (by omega) (by omega)).trans (fd v hv), upd_eq rfl, ?_, fun k hk => ?_, fun k hk => ?_⟩, fun z hz => (F _ (by omega) (by omega) (by omega) (by omega)).trans (s2 z hz), (F 2 (by omega) (by omega) (by omega) (by omega)).trans s3, (F 1 (by omega) (by omega) (by omega) (by omega)).trans s4⟩
  · show aM a + 1 ≤ 4
    omega
  · have hk' : k < aM a + 1 := hk
    show _ = nI (if k = aM a then i / 6 else aF a k) ∧ _ = nI (if k = aM a then i % 6 else aT a k) ∧ _ = nI (if k = aM a then g else aL a k)
    by_cases e : k = aM a
    · subst e
      rw [if_pos rfl, if_pos rfl, if_pos rfl]
      refine ⟨?_, ?_, ?_⟩
      · rw [upd_ne (by omega), upd_ne (by omega), upd_ne (by omega), upd_eq rfl]
      · rw [upd_ne (by omega), upd_ne (by omega), upd_eq rfl]
      · rw [upd_ne (by omega), upd_eq rfl]
    · rw [if_neg e, if_neg e, if_neg e]
      obtain ⟨q1, q2, q3⟩ := fm k (by omega)
      exact ⟨(F _ (by omega) (by omega) (by omega) (by omega)).trans q1, (F _ (by omega) (by omega) (by omega) (by omega)).trans q2, (F _ (by omega) (by omega) (by omega) (by omega)).trans q3⟩
  · have hk' : k < aM a + 1 := hk
    show (if k = aM a then i / 6 else aF a k) < n ∧ (if k = aM a then i % 6 else aT a k) < n ∧ (if k = aM a then i / 6 else aF a k) ≠ (if k = aM a then i % 6 else aT a k) ∧ 1 ≤ (if k = aM a then g else aL a k) ∧ (if k = aM a then g else aL a k) ≤ 20
    by_cases e : k = aM a
    · simp only [if_pos e]
      exact ⟨h1, h2, h3, hg1, hg2⟩
    · simp only [if_neg e]
      exact hm k (by omega)
