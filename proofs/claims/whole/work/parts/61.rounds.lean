/-! ===== pure: it ends, or it comes round ===== -/
theorem pigeon : ∀ (m k : Nat) (f : Nat → Nat), (∀ i, i < k → f i < m) → (∀ i j, i < j → j < k → f i ≠ f j) → k ≤ m := by
  intro m
  induction m with
  | zero =>
    intro k f h1 h2
    rcases Nat.eq_zero_or_pos k with h | h
    · omega
    · exact absurd (h1 0 h) (Nat.not_lt_zero _)
  | succ m ih =>
    intro k f h1 h2
    by_cases h : ∃ i, i < k ∧ f i = m
    · obtain ⟨i0, hi, he⟩ := h
      have q := ih (k - 1) (fun j => if j < i0 then f j else f (j + 1)) (fun j hj => by
        show (if j < i0 then f j else f (j + 1)) < m
        by_cases c : j < i0
        · rw [if_pos c]
          have a1 := h1 j (by omega)
          have a2 := h2 j i0 c hi
          omega
        · rw [if_neg c]
          have a1 := h1 (j + 1) (by omega)
          have a2 := h2 i0 (j + 1) (by omega) (by omega)
          omega) (fun i j hij hj => by
        show (if i < i0 then f i else f (i + 1)) ≠ (if j < i0 then f j else f (j + 1))
        by_cases c : i < i0
        · rw [if_pos c]
          by_cases c' : j < i0
          · rw [if_pos c']; exact h2 i j hij (by omega)
          · rw [if_neg c']; exact h2 i (j + 1) (by omega) (by omega)
        · rw [if_neg c, if_neg (by omega)]; exact h2 (i + 1) (j + 1) (by omega) (by omega))
      omega
    · have q := ih k f (fun i hi => by
        have a1 := h1 i hi
        have a2 : f i ≠ m := fun e => h ⟨i, hi, e⟩
        omega) h2
      omega
theorem walk_succ (H : Nat → Nat → Nat) (S : Nat → Nat) (n : Nat) : ∀ (k x b : Nat), walk H S n (k + 1) x b = match walk H S n k x b with
    | none => none
    | some p => match nx (H p.1) n with
      | none => none
      | some y => some (y, p.2 + gp (H p.1) S n) := by
  intro k
  induction k with
  | zero =>
    intro x b
    show (match nx (H x) n with | none => none | some y => some (y, b + gp (H x) S n)) = _
    rfl
  | succ k ih =>
    intro x b
    show (match nx (H x) n with | none => none | some y => walk H S n (k + 1) y (b + gp (H x) S n)) = _
    rw [show walk H S n (k + 1) x b = (match nx (H x) n with | none => none | some y => walk H S n k y (b + gp (H x) S n)) from rfl]
    cases nx (H x) n with
    | none => rfl
    | some y => exact ih y _
/-- the place and the beat after j strokes -/
def pw (H : Nat → Nat → Nat) (S : Nat → Nat) (n x j : Nat) : Nat × Nat := (walk H S n j x 0).getD (0, 0)
/-- j strokes are struck -/
def Go (H : Nat → Nat → Nat) (S : Nat → Nat) (n x j : Nat) : Prop := walk H S n j x 0 = some (pw H S n x j)
theorem go0 {H : Nat → Nat → Nat} {S : Nat → Nat} {n x : Nat} : Go H S n x 0 ∧ pw H S n x 0 = (x, 0) := ⟨rfl, rfl⟩
theorem go_next {H : Nat → Nat → Nat} {S : Nat → Nat} {n x j y : Nat} (h : Go H S n x j) (e : nx (H (pw H S n x j).1) n = some y) : Go H S n x (j + 1) ∧ pw H S n x (j + 1) = (y, (pw H S n x j).2 + gp (H (pw H S n x j).1) S n) := by
  have q := walk_succ H S n j x 0
  unfold Go at h
  rw [h] at q
  simp only [e] at q
  have q2 : pw H S n x (j + 1) = (y, (pw H S n x j).2 + gp (H (pw H S n x j).1) S n) := by
    show (walk H S n (j + 1) x 0).getD (0, 0) = _
    rw [q]
    rfl
  exact ⟨q.trans (by rw [q2]), q2⟩
theorem go_back {H : Nat → Nat → Nat} {S : Nat → Nat} {n x j : Nat} (h0 : Go H S n x j) (h : Go H S n x (j + 1)) : ∃ y, nx (H (pw H S n x j).1) n = some y ∧ pw H S n x (j + 1) = (y, (pw H S n x j).2 + gp (H (pw H S n x j).1) S n) := by
  cases e : nx (H (pw H S n x j).1) n with
  | none =>
    exfalso
    have q := walk_succ H S n j x 0
    unfold Go at h h0
    rw [h0, h] at q
    simp only [e] at q
    cases q
  | some y => exact ⟨y, rfl, (go_next h0 e).2⟩
theorem pw_lt {H : Nat → Nat → Nat} {S : Nat → Nat} {n x : Nat} (hn : n ≤ 6) (hx : x < 6) : ∀ j, (∀ i, i ≤ j → Go H S n x i) → (pw H S n x j).1 < 6
  | 0, _ => hx
  | j + 1, h => by
    obtain ⟨y, e1, e2⟩ := go_back (h j (by omega)) (h (j + 1) (by omega))
    obtain ⟨y1, -, -, -⟩ := nx_lt e1
    rw [e2]
    show y < 6
    omega
def Ends (H : Nat → Nat → Nat) (S : Nat → Nat) (n x k : Nat) : Prop := k ≤ 5 ∧ (∀ j, j ≤ k → Go H S n x j) ∧ nx (H (pw H S n x k).1) n = none ∧ ∀ i j, i < j → j ≤ k → (pw H S n x i).1 ≠ (pw H S n x j).1
def Rnd (H : Nat → Nat → Nat) (S : Nat → Nat) (n x i k : Nat) : Prop := i < k ∧ k ≤ 6 ∧ (∀ j, j ≤ k → Go H S n x j) ∧ (pw H S n x k).1 = (pw H S n x i).1 ∧ ∀ i j, i < j → j < k → (pw H S n x i).1 ≠ (pw H S n x j).1
abbrev GO : Type := Option (Int32 × Int32 × Int32 × Int32 × Int32 × (Nat → Int32) × (Nat → Int32))
theorem gn_loop {n x : Nat} (hn : n ≤ 6) (hx : x < 6) {H : Nat → Nat → Nat} {S : Nat → Nat} {gap next : Nat → Int32} (hc : CN n S H gap next) (K45 : Int32 → Int32 → Int32 → (Nat → Int32) → (Nat → Int32) → GO) (K107 : Int32 → (Nat → Int32) → (Nat → Int32) → GO) (K137 : (Nat → Int32) → (Nat → Int32) → GO) : ∀ (r k fu : Nat) (mA mB : Nat → Int32), 6 - k = r → k ≤ 6 → r < fu → (∀ j, j ≤ k → Go H S n x j) → (∀ i j, i < j → j < k → (pw H S n x i).1 ≠ (pw H S n x j).1) → (∀ j, j < k → mA (pw H S n x j).1 = nI j ∧ mB (pw H S n x j).1 = nI (pw H S n x j).2) → (∀ z, z < 6 → (∀ j, j < k → (pw H S n x j).1 ≠ z) → mA z = -1) → (∃ k' mA' mB', Ends H S n x k' ∧ fX0_goesOn_L28 gap next K45 K107 K137 fu (nI (pw H S n x k).1) (nI (pw H S n x k).2) (nI k) mA mB = K107 (nI k') mA' mB') ∨ (∃ i k' mA' mB', Rnd H S n x i k' ∧ fX0_goesOn_L28 gap next K45 K107 K137 fu (nI (pw H S n x k).1) (nI (pw H S n x k).2) (nI k) mA mB = K45 (nI (pw H S n x k').1) (nI (pw H S n x k').2) (nI k') mA' mB' ∧ mA' (pw H S n x k').1 = nI i ∧ mB' (pw H S n x k').1 = nI (pw H S n x i).2) := by
  intro r
  induction r with
  | zero =>
    intro k fu mA mB h1 h2 h3 hg hd hm hz
    have hk : k = 6 := by omega
    subst hk
    obtain ⟨fu, rfl⟩ : ∃ g, fu = g + 1 := ⟨fu - 1, by omega⟩
    have hlt := pw_lt hn hx 6 hg
    by_cases hv : ∃ j, j < 6 ∧ (pw H S n x j).1 = (pw H S n x 6).1
    · obtain ⟨j, hj, he⟩ := hv
      right
      refine ⟨j, 6, mA, mB, ⟨hj, by omega, hg, he.symm, hd⟩, ?_, ?_, ?_⟩
      · unfold fX0_goesOn_L28 fX0_goesOn_28
        rw [if_neg (show ¬ (6 : Int32) < nI 6 by decide), rdi_at (j := (pw H S n x 6).1) rfl hlt (by omega), ← he, (hm j hj).1, if_neg (m1_ne (by omega))]
      · rw [← he]; exact (hm j hj).1
      · rw [← he]; exact (hm j hj).2
    · exfalso
      have q := pigeon 6 7 (fun j => (pw H S n x j).1) (fun j hj => pw_lt hn hx j (fun i hi => hg i (by omega))) (fun i j hij hj => by
        by_cases e : j = 6
        · subst e
          exact fun c => hv ⟨i, hij, c⟩
        · exact hd i j hij (by omega))
      omega
  | succ r ih =>
    intro k fu mA mB h1 h2 h3 hg hd hm hz
    obtain ⟨fu, rfl⟩ : ∃ g, fu = g + 1 := ⟨fu - 1, by omega⟩
    have hlt := pw_lt hn hx k hg
    have hno : ¬ (6 : Int32) < nI k := nI_nlt (a := 6) (b := k) (by omega) (by omega)
    by_cases hv : ∃ j, j < k ∧ (pw H S n x j).1 = (pw H S n x k).1
    · obtain ⟨j, hj, he⟩ := hv
      right
      refine ⟨j, k, mA, mB, ⟨hj, by omega, hg, he.symm, hd⟩, ?_, ?_, ?_⟩
      · unfold fX0_goesOn_L28 fX0_goesOn_28
        rw [if_neg hno, rdi_at (j := (pw H S n x k).1) rfl hlt (by omega), ← he, (hm j hj).1, if_neg (m1_ne (by omega))]
      · rw [← he]; exact (hm j hj).1
      · rw [← he]; exact (hm j hj).2
    · have hd' : ∀ i j, i < j → j ≤ k → (pw H S n x i).1 ≠ (pw H S n x j).1 := fun i j hij hj => by
        by_cases e : j = k
        · subst e
          exact fun c => hv ⟨i, hij, c⟩
        · exact hd i j hij (by omega)
      obtain ⟨c1, c2⟩ := hc _ hlt
      unfold fX0_goesOn_L28 fX0_goesOn_28
      rw [if_neg hno, rdi_at (j := (pw H S n x k).1) rfl hlt (by omega), hz _ hlt (fun j hj c => hv ⟨j, hj, c⟩), if_pos rfl]
      simp only [wri_at (j := (pw H S n x k).1) rfl hlt (by omega : (6 : Nat) < 2 ^ 31), rdi_at (j := (pw H S n x k).1) rfl hlt (by omega : (6 : Nat) < 2 ^ 31), c1, c2, lti_eq, nI_1]
      cases e : nx (H (pw H S n x k).1) n with
      | none =>
        left
        rw [enX_none e, if_pos rfl]
        exact ⟨k, _, _, ⟨by omega, hg, e, hd'⟩, rfl⟩
      | some y =>
        obtain ⟨g1, g2⟩ := go_next (hg k (Nat.le_refl _)) e
        obtain ⟨y1, -, -, -⟩ := nx_lt e
        rw [enX_some e, enG_some e, if_neg (m1_ne (by omega)), nI_add]
        have q := ih (k + 1) fu (upd mA (pw H S n x k).1 (nI k)) (upd mB (pw H S n x k).1 (nI (pw H S n x k).2)) (by omega) (by omega) (by omega) (fun j hj => by
          by_cases c : j = k + 1
          · subst c; exact g1
          · exact hg j (by omega)) (fun i j hij hj => hd' i j hij (by omega)) (fun j hj => by
          by_cases c : j = k
          · subst c; exact ⟨upd_eq rfl, upd_eq rfl⟩
          · have hne : (pw H S n x j).1 ≠ (pw H S n x k).1 := hd' j k (by omega) (Nat.le_refl _)
            rw [upd_ne hne, upd_ne hne]
            exact hm j (by omega)) (fun z hz1 hz2 => by
          rw [upd_ne (fun c => hz2 k (by omega) c.symm)]
          exact hz z hz1 (fun j hj => hz2 j (by omega)))
        rw [g2] at q
        exact q
theorem gm_loop (K : (Nat → Int32) → GO) : ∀ (r k fu : Nat) (mA : Nat → Int32), 6 - k = r → k ≤ 6 → r < fu → (∀ z, z < k → mA z = -1) → ∃ mA', fX0_goesOn_L2 K fu (nI k) mA = K mA' ∧ ∀ z, z < 6 → mA' z = -1 := by
  intro r
  induction r with
  | zero =>
    intro k fu mA h1 h2 h3 h4
    have hk : k = 6 := by omega
    subst hk
    obtain ⟨fu, rfl⟩ : ∃ g, fu = g + 1 := ⟨fu - 1, by omega⟩
    unfold fX0_goesOn_L2 fX0_goesOn_2
    rw [if_pos (show (6 : Int32) ≤ nI 6 by decide)]
    exact ⟨mA, rfl, h4⟩
  | succ r ih =>
    intro k fu mA h1 h2 h3 h4
    obtain ⟨fu, rfl⟩ : ∃ g, fu = g + 1 := ⟨fu - 1, by omega⟩
    unfold fX0_goesOn_L2 fX0_goesOn_2
    rw [if_neg (show ¬ (6 : Int32) ≤ nI k from nI_ge (b := 6) (by omega) (by omega)), wri_at (j := k) rfl (by omega) (by omega), nI_1]
    refine ih (k + 1) fu _ (by omega) (by omega) (by omega) (fun z hz => ?_)
    by_cases e : z = k
    · rw [upd_eq e]
    · rw [upd_ne e]; exact h4 z (by omega)
theorem goesOn_ok {N : Nat} (hN : 10 ≤ N) {n x : Nat} (hn : n ≤ 6) (hx : x < 6) {H : Nat → Nat → Nat} {S : Nat → Nat} {gap next : Nat → Int32} (hc : CN n S H gap next) (e rf rs rb : Int32) (mA mB : Nat → Int32) : (∃ k mA' mB', Ends H S n x k ∧ fX0_goesOn N (nI x) e rf rs rb gap mA mB next = some (0, nI k, rf, rs, rb, mA', mB')) ∨ (∃ i k mA' mB', Rnd H S n x i k ∧ fX0_goesOn N (nI x) e rf rs rb gap mA mB next = some (1, e, nI i, nI k - nI i, nI (pw H S n x k).2 - nI (pw H S n x i).2, mA', mB')) := by
  unfold fX0_goesOn
  obtain ⟨mA1, q1, q2⟩ := gm_loop (fun m_a0_metAtk2_21 => fX0_goesOn_L28 gap next
      (fun l2k28_45 l3k28_45 l4k28_45 m_a0_metAtk28_45 m_a0_metBeatk28_45 => rdi 6 m_a0_metAtk28_45 l2k28_45 fun x51 =>
  rdi 6 m_a0_metAtk28_45 l2k28_45 fun x63 =>
  lti (l4k28_45 - x63) fun y65 =>
  rdi 6 m_a0_metBeatk28_45 l2k28_45 fun x75 =>
  lti (l3k28_45 - x75) fun y77 =>
  some (1, e, x51, y65, y77, m_a0_metAtk28_45, m_a0_metBeatk28_45))
      (fun l4k28_107 m_a0_metAtk28_107 m_a0_metBeatk28_107 => some (0, l4k28_107, rf, rs, rb, m_a0_metAtk28_107, m_a0_metBeatk28_107))
      (fun m_a0_metAtk28_137 m_a0_metBeatk28_137 => some (0, e, rf, rs, rb, m_a0_metAtk28_137, m_a0_metBeatk28_137)) N (nI x) 0 0 m_a0_metAtk2_21 mB) 6 0 N mA (by omega) (by omega) (by omega) (fun z hz => absurd hz (Nat.not_lt_zero _))
  rw [show (0 : Int32) = nI 0 from rfl] at q1 ⊢
  rw [q1]
  have q := gn_loop hn hx hc (fun l2k28_45 l3k28_45 l4k28_45 m_a0_metAtk28_45 m_a0_metBeatk28_45 => rdi 6 m_a0_metAtk28_45 l2k28_45 fun x51 =>
  rdi 6 m_a0_metAtk28_45 l2k28_45 fun x63 =>
  lti (l4k28_45 - x63) fun y65 =>
  rdi 6 m_a0_metBeatk28_45 l2k28_45 fun x75 =>
  lti (l3k28_45 - x75) fun y77 =>
  some (1, e, x51, y65, y77, m_a0_metAtk28_45, m_a0_metBeatk28_45))
      (fun l4k28_107 m_a0_metAtk28_107 m_a0_metBeatk28_107 => some (nI 0, l4k28_107, rf, rs, rb, m_a0_metAtk28_107, m_a0_metBeatk28_107))
      (fun m_a0_metAtk28_137 m_a0_metBeatk28_137 => some (nI 0, e, rf, rs, rb, m_a0_metAtk28_137, m_a0_metBeatk28_137)) 6 0 N mA1 mB (by omega) (by omega) (by omega) (fun j hj => by
        have : j = 0 := by omega
        subst this; rfl) (fun i j _ hj => absurd hj (Nat.not_lt_zero _)) (fun j hj => absurd hj (Nat.not_lt_zero _)) (fun z hz _ => q2 z hz)
  rcases q with ⟨k, mA', mB', r1, r2⟩ | ⟨i, k, mA', mB', r1, r2, r3, r4⟩
  · exact Or.inl ⟨k, mA', mB', r1, r2⟩
  · refine Or.inr ⟨i, k, mA', mB', r1, r2.trans ?_⟩
    have hlt := pw_lt hn hx k r1.2.2.1
    simp only [rdi_at (j := (pw H S n x k).1) rfl hlt (by omega : (6 : Nat) < 2 ^ 31), r3, r4, lti_eq]
/-- a run that comes round never ends -/
theorem rnd_all {H : Nat → Nat → Nat} {S : Nat → Nat} {n x i k : Nat} (h : Rnd H S n x i k) : ∀ j, Go H S n x j ∧ ∃ t, t < k ∧ (pw H S n x j).1 = (pw H S n x t).1 := by
  obtain ⟨h1, h2, h3, h4, h5⟩ := h
  intro j
  induction j with
  | zero => exact ⟨h3 0 (by omega), 0, by omega, rfl⟩
  | succ j ih =>
    obtain ⟨g, t, ht, e⟩ := ih
    obtain ⟨y, e1, e2⟩ := go_back (h3 t (by omega)) (h3 (t + 1) (by omega))
    rw [← e] at e1
    obtain ⟨g1, g2⟩ := go_next g e1
    refine ⟨g1, ?_⟩
    by_cases c : t + 1 = k
    · refine ⟨i, h1, ?_⟩
      rw [g2, ← h4, ← c, e2]
    · exact ⟨t + 1, by omega, by rw [g2, e2]⟩
