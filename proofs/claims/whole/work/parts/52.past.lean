theorem notes_cp {u : Nat} {s : Nat → Int32} {K : (Nat → Int32) → Option (Int32 × (Nat → Int32))} (hu : u < 10) : ∀ (r i : Nat) (g : Nat → Int32) (n : Nat), i + r = 35 → r < n → fX12_notes_L47 (nI u) s K n (nI i) g = K (fun j => if 35 * u + i ≤ j ∧ j < 35 * u + 35 then s (0 + (j - 35 * u)) else g j) := by
  intro r
  induction r with
  | zero =>
    intro i g n hi hn
    obtain ⟨n, rfl⟩ : ∃ k, n = k + 1 := ⟨n - 1, by omega⟩
    obtain rfl : i = 35 := by omega
    unfold fX12_notes_L47 fX12_notes_47
    rw [if_pos (show (35 : Int32) ≤ nI 35 by decide)]
    congr 1
    funext j
    rw [if_neg (by omega)]
  | succ r ih =>
    intro i g n hi hn
    obtain ⟨n, rfl⟩ : ∃ k, n = k + 1 := ⟨n - 1, by omega⟩
    unfold fX12_notes_L47 fX12_notes_47
    rw [if_neg (show ¬ (35 : Int32) ≤ nI i from nI_ge (a := i) (b := 35) (by omega) (by omega))]
    rw [rdi_at (j := 0 + i) (by rw [Nat.zero_add]) (by omega) (by omega), wri_at (j := 35 * u + i) (by simp only [litI, pk_mul, nI_add]) (by omega) (by omega)]
    rw [show nI i + 1 = nI (i + 1) from nI_1 i, ih (i + 1) _ n (by omega) (by omega)]
    congr 1
    funext j
    rw [upd_at]
    by_cases h1 : j = 35 * u + i
    · rw [if_neg (by omega), if_pos h1, if_pos (by omega)]
      congr 1
      omega
    · rw [if_neg h1]
      by_cases h2 : 35 * u + (i + 1) ≤ j ∧ j < 35 * u + 35
      · rw [if_pos h2, if_pos (by omega)]
      · rw [if_neg h2, if_neg (by omega)]
theorem undo_cp {u : Nat} {s : Nat → Int32} {K : (Nat → Int32) → Option (Int32 × Int32 × Int32 × (Nat → Int32))} (hu : u < 10) : ∀ (r i : Nat) (g : Nat → Int32) (n : Nat), i + r = 35 → r < n → fX12_undo_L27 (nI u) s K n (nI i) g = K (fun j => if 0 + i ≤ j ∧ j < 0 + 35 then s (35 * u + (j - 0)) else g j) := by
  intro r
  induction r with
  | zero =>
    intro i g n hi hn
    obtain ⟨n, rfl⟩ : ∃ k, n = k + 1 := ⟨n - 1, by omega⟩
    obtain rfl : i = 35 := by omega
    unfold fX12_undo_L27 fX12_undo_27
    rw [if_pos (show (35 : Int32) ≤ nI 35 by decide)]
    congr 1
    funext j
    rw [if_neg (by omega)]
  | succ r ih =>
    intro i g n hi hn
    obtain ⟨n, rfl⟩ : ∃ k, n = k + 1 := ⟨n - 1, by omega⟩
    unfold fX12_undo_L27 fX12_undo_27
    rw [if_neg (show ¬ (35 : Int32) ≤ nI i from nI_ge (a := i) (b := 35) (by omega) (by omega))]
    rw [rdi_at (j := 35 * u + i) (by simp only [litI, pk_mul, nI_add]) (by omega) (by omega), wri_at (j := 0 + i) (by rw [Nat.zero_add]) (by omega) (by omega)]
    rw [show nI i + 1 = nI (i + 1) from nI_1 i, ih (i + 1) _ n (by omega) (by omega)]
    congr 1
    funext j
    rw [upd_at]
    by_cases h1 : j = 0 + i
    · rw [if_neg (by omega), if_pos h1, if_pos (by omega)]
      congr 1
      omega
    · rw [if_neg h1]
      by_cases h2 : 0 + (i + 1) ≤ j ∧ j < 0 + 35
      · rw [if_pos h2, if_pos (by omega)]
      · rw [if_neg h2, if_neg (by omega)]
theorem keep_cp {u : Nat} {s : Nat → Int32} {K : (Nat → Int32) → Option (Int32 × Int32 × (Nat → Int32) × (Nat → Int32))} (hu : u < 2) : ∀ (r i : Nat) (g : Nat → Int32) (n : Nat), i + r = 35 → r < n → fX12_keep_L18 (nI u) s K n (nI i) g = K (fun j => if 35 * u + i ≤ j ∧ j < 35 * u + 35 then s (0 + (j - 35 * u)) else g j) := by
  intro r
  induction r with
  | zero =>
    intro i g n hi hn
    obtain ⟨n, rfl⟩ : ∃ k, n = k + 1 := ⟨n - 1, by omega⟩
    obtain rfl : i = 35 := by omega
    unfold fX12_keep_L18 fX12_keep_18
    rw [if_pos (show (35 : Int32) ≤ nI 35 by decide)]
    congr 1
    funext j
    rw [if_neg (by omega)]
  | succ r ih =>
    intro i g n hi hn
    obtain ⟨n, rfl⟩ : ∃ k, n = k + 1 := ⟨n - 1, by omega⟩
    unfold fX12_keep_L18 fX12_keep_18
    rw [if_neg (show ¬ (35 : Int32) ≤ nI i from nI_ge (a := i) (b := 35) (by omega) (by omega))]
    rw [rdi_at (j := 0 + i) (by rw [Nat.zero_add]) (by omega) (by omega), wri_at (j := 35 * u + i) (by simp only [litI, pk_mul, nI_add]) (by omega) (by omega)]
    rw [show nI i + 1 = nI (i + 1) from nI_1 i, ih (i + 1) _ n (by omega) (by omega)]
    congr 1
    funext j
    rw [upd_at]
    by_cases h1 : j = 35 * u + i
    · rw [if_neg (by omega), if_pos h1, if_pos (by omega)]
      congr 1
      omega
    · rw [if_neg h1]
      by_cases h2 : 35 * u + (i + 1) ≤ j ∧ j < 35 * u + 35
      · rw [if_pos h2, if_pos (by omega)]
      · rw [if_neg h2, if_neg (by omega)]
theorem back_cp {u : Nat} {s : Nat → Int32} {K : (Nat → Int32) → Option (Int32 × Int32 × Int32 × (Nat → Int32))} (hu : u < 2) : ∀ (r i : Nat) (g : Nat → Int32) (n : Nat), i + r = 35 → r < n → fX12_back_L30 (nI u) s K n (nI i) g = K (fun j => if 0 + i ≤ j ∧ j < 0 + 35 then s (35 * u + (j - 0)) else g j) := by
  intro r
  induction r with
  | zero =>
    intro i g n hi hn
    obtain ⟨n, rfl⟩ : ∃ k, n = k + 1 := ⟨n - 1, by omega⟩
    obtain rfl : i = 35 := by omega
    unfold fX12_back_L30 fX12_back_30
    rw [if_pos (show (35 : Int32) ≤ nI 35 by decide)]
    congr 1
    funext j
    rw [if_neg (by omega)]
  | succ r ih =>
    intro i g n hi hn
    obtain ⟨n, rfl⟩ : ∃ k, n = k + 1 := ⟨n - 1, by omega⟩
    unfold fX12_back_L30 fX12_back_30
    rw [if_neg (show ¬ (35 : Int32) ≤ nI i from nI_ge (a := i) (b := 35) (by omega) (by omega))]
    rw [rdi_at (j := 35 * u + i) (by simp only [litI, pk_mul, nI_add]) (by omega) (by omega), wri_at (j := 0 + i) (by rw [Nat.zero_add]) (by omega) (by omega)]
    rw [show nI i + 1 = nI (i + 1) from nI_1 i, ih (i + 1) _ n (by omega) (by omega)]
    congr 1
    funext j
    rw [upd_at]
    by_cases h1 : j = 0 + i
    · rw [if_neg (by omega), if_pos h1, if_pos (by omega)]
      congr 1
      omega
    · rw [if_neg h1]
      by_cases h2 : 0 + (i + 1) ≤ j ∧ j < 0 + 35
      · rw [if_pos h2, if_pos (by omega)]
      · rw [if_neg h2, if_neg (by omega)]
theorem notes_sh {K : (Nat → Int32) → Option (Int32 × (Nat → Int32))} : ∀ (r i : Nat) (g : Nat → Int32) (n : Nat), i + r = 315 → r < n → fX12_notes_L11 K n (nI i) g = K (fun j => if i ≤ j ∧ j < 315 then g (j + 35) else g j) := by
  intro r
  induction r with
  | zero =>
    intro i g n hi hn
    obtain ⟨n, rfl⟩ : ∃ k, n = k + 1 := ⟨n - 1, by omega⟩
    obtain rfl : i = 315 := by omega
    unfold fX12_notes_L11 fX12_notes_11
    rw [if_pos (show (315 : Int32) ≤ nI 315 by decide)]
    congr 1
    funext j
    rw [if_neg (by omega)]
  | succ r ih =>
    intro i g n hi hn
    obtain ⟨n, rfl⟩ : ∃ k, n = k + 1 := ⟨n - 1, by omega⟩
    unfold fX12_notes_L11 fX12_notes_11
    rw [if_neg (show ¬ (315 : Int32) ≤ nI i from nI_ge (a := i) (b := 315) (by omega) (by omega))]
    rw [rdi_at (j := i + 35) (by simp only [litI, nI_add]) (by omega) (by omega), wri_at (j := i) rfl (by omega) (by omega)]
    rw [show nI i + 1 = nI (i + 1) from nI_1 i, ih (i + 1) _ n (by omega) (by omega)]
    congr 1
    funext j
    rw [upd_at, upd_at]
    by_cases h1 : j = i
    · rw [if_neg (by omega), if_pos h1, if_pos (by omega), h1]
    · rw [if_neg h1]
      by_cases h2 : i + 1 ≤ j ∧ j < 315
      · rw [if_pos h2, if_neg (by omega), if_pos (by omega)]
      · rw [if_neg h2, if_neg (by omega)]
theorem RF.congr {f g : Nat → Int32} {a : AN} (hm : aM a ≤ 2) (e : ∀ i, i < 35 → g i = f i) (h : RF f a) : RF g a := by
  obtain ⟨h1, h2, h3, h4, h5, h6, h7, h8, h9⟩ := h
  refine ⟨(e 0 (by omega)).trans h1, (e 1 (by omega)).trans h2, (e 2 (by omega)).trans h3, (e 3 (by omega)).trans h4, fun v hv => (e _ (by omega)).trans (h5 v hv), fun v hv => (e _ (by omega)).trans (h6 v hv), (e 16 (by omega)).trans h7, fun k hk => ?_, fun v hv => (e _ (by omega)).trans (h9 v hv)⟩
  obtain ⟨a1, a2, a3⟩ := h8 k hk
  exact ⟨(e _ (by omega)).trans a1, (e _ (by omega)).trans a2, (e _ (by omega)).trans a3⟩
theorem Rel.congr {n : Nat} {c : SC} {f g : Nat → Int32} (e : ∀ i, i < 35 → g i = f i) (h : Rel n c f) : Rel n c g := by
  obtain ⟨a, h1, h2, h3⟩ := h
  exact ⟨a, h1, h2, h3.congr h1.2.2.2.2.1 e⟩
theorem cpy_in {f g : Nat → Int32} {n j : Nat} (h : j < n) : va_cpy f g 0 0 n j = f j := by
  rw [pk_cpy_in (by omega) (by omega)]
  congr 1
  omega
/-- a copy of a state shows the same -/
theorem copy_ok (b1 b2 b3 b4 b5 : Nat → Int32) (c : SC) : ∃ c' : SC, fX7_copy b1 b2 b3 b4 b5 c.1 c.2.1 c.2.2.1 c.2.2.2.1 c.2.2.2.2.1 c.2.2.2.2.2.1 c.2.2.2.2.2.2.1 c.2.2.2.2.2.2.2.1 c.2.2.2.2.2.2.2.2.1 c.2.2.2.2.2.2.2.2.2.1 c.2.2.2.2.2.2.2.2.2.2 = some c' ∧ c'.1 = c.1 ∧ ∀ n f, Rel n c f → Rel n c' f := by
  unfold fX7_copy
  simp only [lti_eq]
  refine ⟨_, rfl, rfl, fun n f h => ?_⟩
  obtain ⟨a, hA, hC, hF⟩ := h
  refine ⟨a, hA, ?_, hF⟩
  obtain ⟨h1, h2, h3, h4, h5, h6, h7, h8, h9⟩ := hC
  have hm : aM a ≤ 2 := hA.2.2.2.2.1
  refine ⟨h1, h2, h3, h4, h5, h6, fun k hk => ?_, fun v hv => ?_, fun v hv => ?_⟩
  · obtain ⟨a1, a2, a3⟩ := h7 k hk
    exact ⟨(cpy_in (by omega)).trans a1, (cpy_in (by omega)).trans a2, (cpy_in (by omega)).trans a3⟩
  · exact (cpy_in hv).trans (h8 v hv)
  · exact (cpy_in hv).trans (h9 v hv)
/-- what is noted, on both sides -/
theorem pn {N : Nat} (hN : 400 ≤ N) {d : DS} {m : MS} {n : Nat} (pad : Nat → Nat → Nat) (c : SC) {s : Nat → Int32} (hP : InvP d m n) (hS : Rel n c s) : ∃ (pad' : Nat → Nat → Nat) (u' : Nat) (S' : Nat → SC) (und' : Nat → Int32), fX6_push pad (dP d).1 (dP d).2 c.1 c.2.1 c.2.2.1 c.2.2.2.1 c.2.2.2.2.1 c.2.2.2.2.2.1 c.2.2.2.2.2.2.1 c.2.2.2.2.2.2.2.1 c.2.2.2.2.2.2.2.2.1 c.2.2.2.2.2.2.2.2.2.1 c.2.2.2.2.2.2.2.2.2.2 = some (pad', nI u', S') ∧ fX12_notes N (m_undoMany m) s (m_undos m) = some (nI u', und') ∧ u' ≤ 10 ∧ ∀ j, j < u' → Rel n (S' j) (fun i => und' (35 * j + i)) := by
  obtain ⟨u, hu, h1, h2, h3⟩ := hP
  rw [h1, h2]
  have T : ∀ (pad : Nat → Nat → Nat) (w : Nat) (S : Nat → SC) (und : Nat → Int32), w < 10 → (∀ j, j < w → Rel n (S j) (fun i => und (35 * j + i))) → ∃ (pad' : Nat → Nat → Nat) (S' : Nat → SC) (und' : Nat → Int32), fX6_push_13 pad (nI w) S c.1 c.2.1 c.2.2.1 c.2.2.2.1 c.2.2.2.2.1 c.2.2.2.2.2.1 c.2.2.2.2.2.2.1 c.2.2.2.2.2.2.2.1 c.2.2.2.2.2.2.2.2.1 c.2.2.2.2.2.2.2.2.2.1 c.2.2.2.2.2.2.2.2.2.2 = some (pad', nI (w + 1), S') ∧ fX12_notes_45 N (nI w) s und = some (nI (w + 1), und') ∧ ∀ j, j < w + 1 → Rel n (S' j) (fun i => und' (35 * j + i)) := by
    intro pad w S und hw hold
    unfold fX6_push_13 fX12_notes_45
    rw [rdx_at (j := w) rfl hw (by omega)]
    obtain ⟨c', e1, -, e3⟩ := copy_ok (S w).2.2.2.2.2.2.1 (S w).2.2.2.2.2.2.2.1 (S w).2.2.2.2.2.2.2.2.1 (S w).2.2.2.2.2.2.2.2.2.1 (S w).2.2.2.2.2.2.2.2.2.2 c
    rw [e1, ob_some, lti_eq, show (0 : Int32) = nI 0 from rfl, notes_cp hw 35 0 und N (by omega) (by omega), lti_eq]
    refine ⟨_, _, _, by rw [show nI w + 1 = nI (w + 1) from nI_1 w], by rw [show nI w + 1 = nI (w + 1) from nI_1 w], fun j hj => ?_⟩
    by_cases hjw : j = w
    · subst hjw
      have hup : va_up S j c' j = c' := by unfold va_up; rw [if_pos rfl]
      rw [hup]
      refine Rel.congr (fun i hi => ?_) (e3 n s hS)
      rw [if_pos (by omega)]
      congr 1
      omega
    · have hup : va_up S w c' j = S j := by unfold va_up; rw [if_neg hjw]
      rw [hup]
      refine Rel.congr (fun i hi => ?_) (hold j (by omega))
      rw [if_neg (by omega)]
  unfold fX6_push fX12_notes
  by_cases h10 : u = 10
  · subst h10
    rw [if_neg (show ¬ nI 10 < (10 : Int32) by decide), if_pos (show nI 10 = (10 : Int32) from rfl), show (0 : Int32) = nI 0 from rfl, notes_sh 315 0 _ N (by omega) (by omega)]
    obtain ⟨p', S', und', e1, e2, e3⟩ := T (rotP pad) 9 (rotP (dP d).2) (fun j => if 0 ≤ j ∧ j < 315 then m_undos m (j + 35) else m_undos m j) (by omega) (fun j hj => by
      have hr : rotP (dP d).2 j = (dP d).2 (j + 1) := by unfold rotP; rw [if_pos hj]
      rw [hr]
      refine Rel.congr (fun i hi => ?_) (h3 (j + 1) (by omega))
      rw [if_pos (by omega)]
      congr 1
      omega)
    exact ⟨p', 10, S', und', e1, e2, by omega, e3⟩
  · have hlt : u < 10 := by omega
    rw [if_pos (show nI u < (10 : Int32) from nI_lt (a := u) (b := 10) hlt (by omega)), if_neg (show ¬ nI u = (10 : Int32) from nI_ne (a := u) (b := 10) (by omega) (by omega) h10)]
    obtain ⟨p', S', und', e1, e2, e3⟩ := T pad u (dP d).2 (m_undos m) hlt h3
    exact ⟨p', u + 1, S', und', e1, e2, by omega, e3⟩
